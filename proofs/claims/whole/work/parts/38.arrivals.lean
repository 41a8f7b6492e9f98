/-! what came to the disk and is not synced -/
abbrev AV : Type := Int32 × Int32 × Int32
def SrtF (fs : List AF) : Prop := fs.Pairwise (fun f f' => f.1 < f'.1 ∨ (f.1 = f'.1 ∧ f.2.1 < f'.2.1))
def acn (n : Nat) (g : Gh) : Nat := (qi g 603 (n + 9)).toNatClampNeg
def avw (g : Gh) (v : Nat) : AV := (qi g 701 (qr g 300 v), qi g 702 (qr g 300 v), qi g 301 v)
def AIV (n : Nat) (g : Gh) : List AV := ((qL g (n + 12)).take (acn n g)).map (avw g)
def AvI (n : Nat) (g : Gh) : Prop := qi g 603 (n + 9) = nI (acn n g) ∧ acn n g ≤ (qL g (n + 12)).length ∧ (∀ v, v ∈ qL g (n + 12) → qk g v = 4) ∧ (qL g (n + 12)).Nodup ∧ ∀ v, v ∈ (qL g (n + 12)).take (acn n g) → qr g 300 v ∈ qL g (n + 10)
def DSC (n : Nat) (g : Gh) : Int32 × Int32 × Int32 := (qi g 604 (n + 9), qi g 605 (n + 9), qi g 606 (n + 9))
/-- n bytes came to the file (a, b) -/
def noteA (a b c : Int32) (l : List AV) : List AV := match l.getLast? with
  | none => l ++ [(a, b, c)]
  | some w => if w.1 = a ∧ w.2.1 = b then l.dropLast ++ [(a, b, w.2.2 + c)] else l ++ [(a, b, c)]
section
variable {n : Nat} {g g' : Gh} {α : Type} {Q : α → Gh → Prop}
theorem id_inj (hS : SrtF (FV n g)) {d e : Nat} (hd : d ∈ qL g (n + 10)) (he : e ∈ qL g (n + 10)) (h1 : qi g 701 d = qi g 701 e) (h2 : qi g 702 d = qi g 702 e) : d = e := by
  obtain ⟨i, hi⟩ := List.mem_iff_getElem?.mp hd
  obtain ⟨j, hj⟩ := List.mem_iff_getElem?.mp he
  have fi := fv_at hi
  have fj := fv_at hj
  have li := lt_of_some fi
  have lj := lt_of_some fj
  rw [List.getElem?_eq_getElem li] at fi
  rw [List.getElem?_eq_getElem lj] at fj
  have fi := Option.some.inj fi
  have fj := Option.some.inj fj
  have hp := List.pairwise_iff_getElem.mp hS
  rcases Nat.lt_trichotomy i j with q | q | q
  · have := hp i j li lj q
    rw [fi, fj] at this
    exfalso
    rcases this with q | ⟨_, q⟩
    · have q : qi g 701 d < qi g 701 e := q
      rw [h1] at q
      exact Int32.lt_irrefl q
    · have q : qi g 702 d < qi g 702 e := q
      rw [h2] at q
      exact Int32.lt_irrefl q
  · subst q
    rw [hi] at hj
    exact Option.some.inj hj
  · have := hp j i lj li q
    rw [fi, fj] at this
    exfalso
    rcases this with q | ⟨_, q⟩
    · have q : qi g 701 e < qi g 701 d := q
      rw [h1] at q
      exact Int32.lt_irrefl q
    · have q : qi g 702 e < qi g 702 d := q
      rw [h2] at q
      exact Int32.lt_irrefl q
/-- the heap behind the noting of an arrival at place ac of the list -/
def nta (n : Nat) (g : Gh) (v d : Nat) (c : Int32) : Gh := wI (wI (wR g 300 v d) 301 v c) 603 (n + 9) (nI (acn n g + 1))
theorem take_snoc {α : Type} {l : List α} {i : Nat} {v : α} (h : l[i]? = some v) : l.take (i + 1) = l.take i ++ [v] := by
  rw [List.take_add_one, h]
  rfl
theorem not_mem_take {l : List Nat} {i : Nat} {v : Nat} (hn : l.Nodup) (h : l[i]? = some v) : v ∉ l.take i := by
  intro q
  have hp := lt_of_some h
  have e := take_snoc h
  have : (l.take (i + 1)).Nodup := hn.sublist (List.take_sublist _ _)
  rw [e, List.nodup_append] at this
  exact this.2.2 v q v (List.mem_singleton.mpr rfl) rfl
theorem nta_ok {v d : Nat} {c : Int32} (hC : Cs n g) (hD : DI n g) (hA : AvI n g) (hd : d ∈ qL g (n + 10)) (hv : (qL g (n + 12))[acn n g]? = some v) (h6 : acn n g < 30000) : Dp n g (nta n g v d c) 0 ∧ AvI n (nta n g v d c) ∧ FV n (nta n g v d c) = FV n g ∧ SV n (nta n g v d c) = SV n g ∧ DSC n (nta n g v d c) = DSC n g ∧ AIV n (nta n g v d c) = AIV n g ++ [(qi g 701 d, qi g 702 d, c)] := by
  obtain ⟨a1, a2, a3, a4, a5⟩ := hA
  have hvm : v ∈ qL g (n + 12) := List.mem_of_getElem? hv
  have hqq : qi (nta n g v d c) = u2 (u2 (qi g) 301 v c) 603 (n + 9) (nI (acn n g + 1)) := rfl
  have hac : acn n (nta n g v d c) = acn n g + 1 := by
    rw [acn, hqq, u2_eq, nI_clamp (by omega)]
  have hq1 : ∀ j a, j ≠ 301 → j ≠ 603 → qi (nta n g v d c) j a = qi g j a := fun j a h1 h2 => by
    rw [hqq, u2_ne (by omega), u2_ne (by omega)]
  have hq2 : qi (nta n g v d c) 301 v = c := by
    rw [hqq, u2_ne (by omega), u2_eq]
  have hq3 : ∀ w, w ≠ v → qi (nta n g v d c) 301 w = qi g 301 w := fun w hw => by
    rw [hqq, u2_ne (by omega), u2_ne (by omega)]
  have hr1 : qr (nta n g v d c) 300 v = d := by
    show u2 (qr g) 300 v d 300 v = d
    rw [u2_eq]
  have hr2 : ∀ w, w ≠ v → qr (nta n g v d c) 300 w = qr g 300 w := fun w hw => by
    show u2 (qr g) 300 v d 300 w = _
    rw [u2_ne (by omega)]
  have hn9 := not_mem_take a4 hv
  refine ⟨⟨?_, ⟨⟨Nat.le_refl _, Nat.le_refl _⟩, fun h => h⟩, ?_⟩, ⟨?_, ?_, a3, a4, ?_⟩, ?_, rfl, ?_, ?_⟩
  · refine fra_trans (P' := ownD n g) (fra_trans (P' := ownD n g) (fra_wR (Or.inr (Or.inl (a3 v hvm))) (Or.inl rfl)) (fra_wI (Or.inr (Or.inl (a3 v hvm)))) (fun _ _ h => h)) (fra_wI (Or.inr (Or.inr (Or.inr (Or.inl rfl))))) (fun _ _ h => h)
  · refine ⟨fun x hx => ?_, hD.2⟩
    obtain ⟨b1, b2, b3, b4⟩ := hD.1 x hx
    refine ⟨b1, ?_, b3, b4⟩
    show u2 (qr g) 300 v d 700 x = _
    rw [u2_ne (by omega)]
    exact b2
  · rw [hac]
    rw [hqq, u2_eq]
  · rw [hac]
    exact lt_of_some hv
  · intro w hw
    rw [hac] at hw
    have hw2 : w ∈ (qL g (n + 12)).take (acn n g + 1) := hw
    rw [take_snoc hv, List.mem_append, List.mem_singleton] at hw2
    show qr (nta n g v d c) 300 w ∈ qL g (n + 10)
    rcases hw2 with q | q
    · rw [hr2 w (fun e => hn9 (e ▸ q))]
      exact a5 w q
    · rw [q, hr1]
      exact hd
  · unfold FV
    show (qL g (n + 10)).map _ = _
    apply List.map_congr_left
    intro x _
    unfold fvw
    rw [hq1 _ _ (by decide) (by decide), hq1 _ _ (by decide) (by decide), hq1 _ _ (by decide) (by decide)]
    rfl
  · unfold DSC
    rw [hq1 _ _ (by decide) (by decide), hq1 _ _ (by decide) (by decide), hq1 _ _ (by decide) (by decide)]
  · unfold AIV
    rw [hac]
    show ((qL g (n + 12)).take (acn n g + 1)).map _ = _
    rw [take_snoc hv, List.map_append]
    congr 1
    · apply List.map_congr_left
      intro w hw
      have hne : w ≠ v := fun e => hn9 (e ▸ hw)
      unfold avw
      rw [hr2 w hne, hq1 _ _ (by decide) (by decide), hq1 _ _ (by decide) (by decide), hq3 w hne]
    · show [avw (nta n g v d c) v] = _
      unfold avw
      rw [hr1, hq1 _ _ (by decide) (by decide), hq1 _ _ (by decide) (by decide), hq2]
/-- what holds of the heap behind noteArrival -/
def Nap (n : Nat) (g g' : Gh) (l : List AV) : Prop := Dp n g g' 0 ∧ AvI n g' ∧ FV n g' = FV n g ∧ SV n g' = SV n g ∧ DSC n g' = DSC n g ∧ AIV n g' = l ∧ (qL g' (n + 12)).length ≤ max (qL g (n + 12)).length (acn n g + 1)
/-- there is no arrival ahead of the first -/
theorem ok_arrN {i : Int32} {k : Option Nat → M α} (hi : i < 0) (hx : ok (k none) g Q) : ok (bd (X3_arrivalAt (n + 9) i) k) g Q := by
  refine ok_bd ?_
  unfold X3_arrivalAt
  exact ok_itT hi (ok_pu hx)
/-- nor behind the last -/
theorem ok_arrO {i : Int32} {j : Nat} {k : Option Nat → M α} (hC : Cs n g) (hi : i = nI j) (hl : (qL g (n + 12)).length ≤ j) (h6 : j < 2 ^ 31) (hx : ok (k none) g Q) : ok (bd (X3_arrivalAt (n + 9) i) k) g Q := by
  subst hi
  refine ok_bd ?_
  unfold X3_arrivalAt
  exact ok_itF (nI_pos h6) (ok_av hC (ok_ck (cs_av hC) (ok_lsize (cs_av hC) (ok_itT (nI_le hl h6) (ok_pu hx)))))
/-- the arrival at place j -/
theorem ok_arrS {i : Int32} {j v : Nat} {k : Option Nat → M α} (hC : Cs n g) (hi : i = nI j) (hv : (qL g (n + 12))[j]? = some v) (kv : qk g v = 4) (h6 : (qL g (n + 12)).length < 2 ^ 31) (hx : ok (k (some v)) g Q) : ok (bd (X3_arrivalAt (n + 9) i) k) g Q := by
  subst hi
  have hl := lt_of_some hv
  refine ok_bd ?_
  unfold X3_arrivalAt
  exact ok_itF (nI_pos (by omega)) (ok_av hC (ok_ck (cs_av hC) (ok_lsize (cs_av hC) (ok_itF (nI_ge hl h6) (ok_av hC (ok_ck (cs_av hC) (ok_lget (cs_av hC) rfl hv (ok_ck (c := 3) kv (ok_pu hx)))))))))
theorem note_b68 {d v : Nat} {c : Int32} {k : Unit → M α} (hC : Cs n g) (hD : DI n g) (hA : AvI n g) (hd : d ∈ qL g (n + 10)) (hv : (qL g (n + 12))[acn n g]? = some v) (h6 : acn n g < 30000) (hk : ok (k ()) (nta n g v d c) Q) : ok (bd (X3_noteArrival_b68 (n + 9) d c v) k) g Q := by
  refine ok_bd ?_
  unfold X3_noteArrival_b68
  have kv : qk g v = 4 := hA.2.2.1 v (List.mem_of_getElem? hv)
  refine ok_pR (c := 3) kv (ok_pI (c := 3) kv (ok_gI (c := 6) (v := nI (acn n g)) (cs_disk hC) ?_ (ok_pI (c := 6) (cs_disk hC) (ok_pu ?_))))
  · show u2 (qi g) 301 v c 603 (n + 9) = _
    rw [u2_ne (by omega)]
    exact hA.1
  · rw [nI_1]
    exact hk
theorem note_b34 {d : Nat} {c : Int32} {k : Unit → M α} (hC : Cs n g) (hD : DI n g) (hA : AvI n g) (hd : d ∈ qL g (n + 10)) (h6 : (qL g (n + 12)).length < 30000) (hk : ∀ g', Nap n g g' (AIV n g ++ [(qi g 701 d, qi g 702 d, c)]) → ok (k ()) g' Q) : ok (bd (X3_noteArrival_b34 (n + 9) d c) k) g Q := by
  refine ok_capL (cs_av hC) (fun h60 h12 => ok_nz (fun hz => ok_fresh (fun hf1 hf2 _ => ok_bd ?_)))
  unfold X3_noteArrival_b34
  have h8 := hA.2.1
  refine ok_gI (cs_disk hC) hA.1 (ok_ck (cs_disk hC) ?_)
  by_cases e : acn n g < (qL g (n + 12)).length
  · obtain ⟨v, hv⟩ := some_of_lt e
    refine ok_arrS hC rfl hv (hA.2.2.1 v (List.mem_of_getElem? hv)) (by omega) ?_
    show ok (X3_noteArrival_b68 (n + 9) d c v) g _
    have := note_b68 (α := Unit) (Q := fun v g1 => ok (k v) g1 Q) (k := pu) (c := c) hC hD hA hd hv (by omega) (ok_pu (hk _ ?_))
    · intro h ha
      obtain ⟨x, h1, g1, e1, a1, q1⟩ := this h ha
      refine ⟨x, h1, g1, ?_, a1, q1⟩
      rw [← e1]
      show _ = bq ((X3_noteArrival_b68 (n + 9) d c v).1 h) _
      cases (X3_noteArrival_b68 (n + 9) d c v).1 h <;> rfl
    · obtain ⟨b1, b2, b3, b4, b5, b6⟩ := nta_ok (c := c) hC hD hA hd hv (by omega)
      exact ⟨b1, b2, b3, b4, b5, b6, Nat.le_max_left _ _⟩
  · have e2 : acn n g = (qL g (n + 12)).length := by omega
    refine ok_arrO hC rfl (by omega) (by omega) ?_
    refine ok_nw (by decide) ?_
    have kn : qk (wO g 3 2) (qn g) = 4 := by rw [p_qk_wO]; exact vu_eq
    have hCo : Cs n (wO g 3 2) := cs_fra hC (fra_wO (P := fun _ => False)) hz
    refine ok_bpu (ok_av hCo (ok_ck (cs_av hCo) (ok_ladd (cs_av hCo) (Or.inl kn) (by show (qL g (n + 12)).length ≤ _; omega) ?_)))
    have hx12 : qL (wO g 3 2) (n + 12) = qL g (n + 12) := rfl
    rw [hx12]
    generalize hg1 : wL (wO g 3 2) (n + 12) (qL g (n + 12) ++ [qn g]) = g1
    have f1 : fra (ownD n g) g g1 := by
      rw [← hg1]
      exact fra_trans (P' := ownD n g) fra_wO (fra_wL (Or.inr (Or.inr (Or.inr (Or.inr (Or.inr (Or.inr rfl))))))) (fun _ _ h => h)
    have c1 : Cs n g1 := cs_fra hC f1 hz
    have l12 : qL g1 (n + 12) = qL g (n + 12) ++ [qn g] := by rw [← hg1]; exact vu_eq
    have l10 : qL g1 (n + 10) = qL g (n + 10) := by rw [← hg1]; exact vu_ne (by omega)
    have l11 : qL g1 (n + 11) = qL g (n + 11) := by rw [← hg1]; exact vu_ne (by omega)
    have i1 : ∀ j a, (j / 100 ≠ 3 ∨ a < qn g) → qi g1 j a = qi g j a := fun j a h => by
      rw [← hg1]
      exact if_neg (by omega)
    have r1 : ∀ j a, (j / 100 ≠ 3 ∨ a < qn g) → qr g1 j a = qr g j a := fun j a h => by
      rw [← hg1]
      exact if_neg (by omega)
    have hlt : ∀ v, v ∈ qL g (n + 12) → v < qn g := fun v hv => hz v (by rw [hA.2.2.1 v hv]; decide)
    have fv1 : ∀ x, fvw g1 x = fvw g x := fun x => by
      unfold fvw
      rw [i1 _ _ (Or.inl (by decide)), i1 _ _ (Or.inl (by decide)), i1 _ _ (Or.inl (by decide)), ← hg1]
      rfl
    have ac1 : acn n g1 = acn n g := by
      unfold acn
      rw [i1 _ _ (Or.inl (by decide))]
    have d1 : DI n g1 := by
      refine ⟨fun x hx => ?_, by rw [l10, l11]; exact hD.2⟩
      rw [l10, l11] at hx
      obtain ⟨b1, b2, b3, b4⟩ := hD.1 x hx
      exact ⟨fra_k f1 hz b1 (by decide), by rw [r1 _ _ (Or.inl (by decide))]; exact b2, fra_k f1 hz b3 (by decide), b4⟩
    have av1 : ∀ v, v ∈ (qL g (n + 12)).take (acn n g) → avw g1 v = avw g v := fun v hv => by
      unfold avw
      have := hlt v (List.mem_of_mem_take hv)
      rw [r1 _ _ (Or.inr this), i1 _ _ (Or.inl (by decide)), i1 _ _ (Or.inl (by decide)), i1 _ _ (Or.inr this)]
    have a1 : AvI n g1 := by
      refine ⟨?_, ?_, ?_, ?_, ?_⟩
      · rw [ac1, i1 _ _ (Or.inl (by decide))]
        exact hA.1
      · rw [ac1, l12]
        simp
        omega
      · intro v hv
        rw [l12, List.mem_append, List.mem_singleton] at hv
        rcases hv with q | q
        · exact fra_k f1 hz (hA.2.2.1 v q) (by decide)
        · rw [q, ← hg1]
          exact kn
      · rw [l12, List.nodup_append]
        refine ⟨hA.2.2.2.1, by simp, ?_⟩
        intro x hx y hy e
        rw [List.mem_singleton] at hy
        have := hlt x hx
        omega
      · intro v hv
        rw [ac1, l12, List.take_append_of_le_length (by omega)] at hv
        have := hlt v (List.mem_of_mem_take hv)
        rw [r1 _ _ (Or.inr this), l10]
        exact hA.2.2.2.2 v hv
    have hv : (qL g1 (n + 12))[acn n g1]? = some (qn g) := by
      rw [l12, ac1, e2]
      simp
    have acc1 : acc n g g1 0 := by
      have e3 := ecap_4 (c := qE g (n + 12)) (m := (qL g (n + 12)).length + 1) (by omega)
      have e5 := ecap_5 (c := qE g (n + 12)) (m := (qL g (n + 12)).length + 1)
      refine ⟨?_, fun hCE => ?_⟩
      · unfold acc2 rsum ccnt
        rw [l10, l11, l12, ← hg1]
        simp only [p_qn_wI, p_qs_wI, p_qk_wI, p_qi_wI, p_qr_wI, p_qB_wI, p_qC_wI, p_qL_wI, p_qE_wI, p_qA_wI, p_qW_wI, p_qn_wR, p_qs_wR, p_qk_wR, p_qi_wR, p_qr_wR, p_qB_wR, p_qC_wR, p_qL_wR, p_qE_wR, p_qA_wR, p_qW_wR, p_qn_wB, p_qs_wB, p_qk_wB, p_qi_wB, p_qr_wB, p_qB_wB, p_qC_wB, p_qL_wB, p_qE_wB, p_qA_wB, p_qW_wB, p_qn_wX, p_qs_wX, p_qk_wX, p_qi_wX, p_qr_wX, p_qB_wX, p_qC_wX, p_qL_wX, p_qE_wX, p_qA_wX, p_qW_wX, p_qn_wL, p_qs_wL, p_qk_wL, p_qi_wL, p_qr_wL, p_qB_wL, p_qC_wL, p_qL_wL, p_qE_wL, p_qA_wL, p_qW_wL, p_qn_wl, p_qs_wl, p_qk_wl, p_qi_wl, p_qr_wl, p_qB_wl, p_qC_wl, p_qL_wl, p_qE_wl, p_qA_wl, p_qW_wl, p_qn_wA, p_qs_wA, p_qk_wA, p_qi_wA, p_qr_wA, p_qB_wA, p_qC_wA, p_qL_wA, p_qE_wA, p_qA_wA, p_qW_wA, p_qn_wW, p_qs_wW, p_qk_wW, p_qi_wW, p_qr_wW, p_qB_wW, p_qC_wW, p_qL_wW, p_qE_wW, p_qA_wW, p_qW_wW, p_qn_wO, p_qs_wO, p_qk_wO, p_qi_wO, p_qr_wO, p_qB_wO, p_qC_wO, p_qL_wO, p_qE_wO, p_qA_wO, p_qW_wO, p_qn_wNB, p_qs_wNB, p_qk_wNB, p_qi_wNB, p_qr_wNB, p_qB_wNB, p_qC_wNB, p_qL_wNB, p_qE_wNB, p_qA_wNB, p_qW_wNB, p_qn_wNL, p_qs_wNL, p_qk_wNL, p_qi_wNL, p_qr_wNL, p_qB_wNL, p_qC_wNL, p_qL_wNL, p_qE_wNL, p_qA_wNL, p_qW_wNL, p_qn_wF, p_qs_wF, p_qk_wF, p_qi_wF, p_qr_wF, p_qB_wF, p_qC_wF, p_qL_wF, p_qE_wF, p_qA_wF, p_qW_wF, vup]
        simp
        omega
      · unfold CE at hCE ⊢
        rw [l10, l11, l12, ← hg1]
        simp only [p_qn_wI, p_qs_wI, p_qk_wI, p_qi_wI, p_qr_wI, p_qB_wI, p_qC_wI, p_qL_wI, p_qE_wI, p_qA_wI, p_qW_wI, p_qn_wR, p_qs_wR, p_qk_wR, p_qi_wR, p_qr_wR, p_qB_wR, p_qC_wR, p_qL_wR, p_qE_wR, p_qA_wR, p_qW_wR, p_qn_wB, p_qs_wB, p_qk_wB, p_qi_wB, p_qr_wB, p_qB_wB, p_qC_wB, p_qL_wB, p_qE_wB, p_qA_wB, p_qW_wB, p_qn_wX, p_qs_wX, p_qk_wX, p_qi_wX, p_qr_wX, p_qB_wX, p_qC_wX, p_qL_wX, p_qE_wX, p_qA_wX, p_qW_wX, p_qn_wL, p_qs_wL, p_qk_wL, p_qi_wL, p_qr_wL, p_qB_wL, p_qC_wL, p_qL_wL, p_qE_wL, p_qA_wL, p_qW_wL, p_qn_wl, p_qs_wl, p_qk_wl, p_qi_wl, p_qr_wl, p_qB_wl, p_qC_wl, p_qL_wl, p_qE_wl, p_qA_wl, p_qW_wl, p_qn_wA, p_qs_wA, p_qk_wA, p_qi_wA, p_qr_wA, p_qB_wA, p_qC_wA, p_qL_wA, p_qE_wA, p_qA_wA, p_qW_wA, p_qn_wW, p_qs_wW, p_qk_wW, p_qi_wW, p_qr_wW, p_qB_wW, p_qC_wW, p_qL_wW, p_qE_wW, p_qA_wW, p_qW_wW, p_qn_wO, p_qs_wO, p_qk_wO, p_qi_wO, p_qr_wO, p_qB_wO, p_qC_wO, p_qL_wO, p_qE_wO, p_qA_wO, p_qW_wO, p_qn_wNB, p_qs_wNB, p_qk_wNB, p_qi_wNB, p_qr_wNB, p_qB_wNB, p_qC_wNB, p_qL_wNB, p_qE_wNB, p_qA_wNB, p_qW_wNB, p_qn_wNL, p_qs_wNL, p_qk_wNL, p_qi_wNL, p_qr_wNL, p_qB_wNL, p_qC_wNL, p_qL_wNL, p_qE_wNL, p_qA_wNL, p_qW_wNL, p_qn_wF, p_qs_wF, p_qk_wF, p_qi_wF, p_qr_wF, p_qB_wF, p_qC_wF, p_qL_wF, p_qE_wF, p_qA_wF, p_qW_wF, vup]
        simp
        omega
    have aiv1 : AIV n g1 = AIV n g := by
      unfold AIV
      rw [ac1, l12, List.take_append_of_le_length (by omega)]
      exact List.map_congr_left av1
    have fvl : FV n g1 = FV n g := by
      unfold FV
      rw [l10]
      exact List.map_congr_left (fun x _ => fv1 x)
    have hd1 : d ∈ qL g1 (n + 10) := by rw [l10]; exact hd
    have := note_b68 (α := Unit) (Q := fun v g1 => ok (k v) g1 Q) (k := pu) (c := c) c1 d1 a1 hd1 hv (by omega) (ok_pu (hk _ ?_))
    · intro h ha
      obtain ⟨x, h1, g2, e1, a1, q1⟩ := this h ha
      refine ⟨x, h1, g2, ?_, a1, q1⟩
      rw [← e1]
      show _ = bq ((X3_noteArrival_b68 (n + 9) d c (qn g)).1 h) _
      cases (X3_noteArrival_b68 (n + 9) d c (qn g)).1 h <;> rfl
    · obtain ⟨b1, b2, b3, b4, b5, b6⟩ := nta_ok (c := c) c1 d1 a1 hd1 hv (by omega)
      refine ⟨⟨frD_trans f1 b1.1, acc_trans acc1 b1.2.1, b1.2.2⟩, b2, b3.trans fvl, b4.trans ?_, b5.trans ?_, ?_, ?_⟩
      · unfold SV
        rw [l11, ← hg1]
        rfl
      · unfold DSC
        rw [i1 _ _ (Or.inl (by decide)), i1 _ _ (Or.inl (by decide)), i1 _ _ (Or.inl (by decide))]
      · rw [b6, aiv1, i1 _ _ (Or.inl (by decide)), i1 _ _ (Or.inl (by decide))]
      · show (qL g1 (n + 12)).length ≤ _
        rw [l12]
        simp
        omega
end
