theorem ok_tail {α : Type} {x : M α} {g : Gh} {Q : α → Gh → Prop} (hx : ok (bd x pu) g Q) : ok x g Q := by
  intro h ha
  obtain ⟨v, h1, g1, e1, a1, q1⟩ := hx h ha
  refine ⟨v, h1, g1, ?_, a1, q1⟩
  rw [← e1]
  show _ = bq (x.1 h) _
  cases x.1 h <;> rfl
theorem map_upd {α : Type} {f f' : Nat → α} {l : List Nat} {p d : Nat} {v : α} (hn : l.Nodup) (hd : l[p]? = some d) (h1 : ∀ x, x ∈ l → x ≠ d → f' x = f x) (h2 : f' d = v) : l.map f' = (l.map f).set p v := by
  apply List.ext_getElem?
  intro i
  rw [List.getElem?_map, List.getElem?_set, List.getElem?_map]
  by_cases e : p = i
  · subst e
    rw [if_pos rfl, if_pos (by rw [List.length_map]; exact lt_of_some hd), hd, Option.map_some, h2]
  · rw [if_neg e]
    cases hi : l[i]? with
    | none => rfl
    | some x =>
      have hne : x ≠ d := by
        intro q
        subst q
        exact e ((List.getElem?_inj (lt_of_some hd) hn).mp (hd.trans hi.symm))
      rw [Option.map_some, Option.map_some, h1 x (List.mem_of_getElem? hi) hne]
section
variable {n : Nat} {g g' : Gh} {α : Type} {Q : α → Gh → Prop}
theorem nap_more {v : Nat} {c : Int32} (hC : Cs n g) (hD : DI n g) (hA : AvI n g) (h0 : 0 < acn n g) (hv : (qL g (n + 12))[acn n g - 1]? = some v) : Nap n g (wI g 301 v (qi g 301 v + c)) ((AIV n g).dropLast ++ [((avw g v).1, (avw g v).2.1, (avw g v).2.2 + c)]) := by
  obtain ⟨a1, a2, a3, a4, a5⟩ := hA
  have hvm : v ∈ qL g (n + 12) := List.mem_of_getElem? hv
  have hq : qi (wI g 301 v (qi g 301 v + c)) = u2 (qi g) 301 v (qi g 301 v + c) := rfl
  have hq1 : ∀ j a, j ≠ 301 → qi (wI g 301 v (qi g 301 v + c)) j a = qi g j a := fun j a h => by rw [hq, u2_ne (by omega)]
  have hac : acn n (wI g 301 v (qi g 301 v + c)) = acn n g := by
    rw [acn, hq1 _ _ (by decide)]
    rfl
  have hl : qL (wI g 301 v (qi g 301 v + c)) = qL g := rfl
  refine ⟨⟨fra_wI (Or.inr (Or.inl (a3 v hvm))), ⟨⟨Nat.le_refl _, Nat.le_refl _⟩, fun h => h⟩, hD⟩, ⟨?_, ?_, a3, a4, ?_⟩, ?_, rfl, ?_, ?_, ?_⟩
  · rw [hac, hq1 _ _ (by decide)]
    exact a1
  · rw [hac]
    exact a2
  · rw [hac]
    exact a5
  · unfold FV
    apply List.map_congr_left
    intro x _
    unfold fvw
    rw [hq1 _ _ (by decide), hq1 _ _ (by decide), hq1 _ _ (by decide)]
    rfl
  · unfold DSC
    rw [hq1 _ _ (by decide), hq1 _ _ (by decide), hq1 _ _ (by decide)]
  · unfold AIV
    rw [hac, hl]
    have e : (qL g (n + 12)).take (acn n g) = (qL g (n + 12)).take (acn n g - 1) ++ [v] := by
      have := take_snoc hv
      rw [show acn n g - 1 + 1 = acn n g by omega] at this
      exact this
    have hnm := not_mem_take a4 hv
    rw [e, List.map_append, List.map_append]
    simp only [List.map_cons, List.map_nil, List.dropLast_concat]
    congr 1
    · apply List.map_congr_left
      intro w hw
      have hne : w ≠ v := fun q => hnm (q ▸ hw)
      unfold avw
      rw [hq, u2_ne (by omega), u2_ne (by omega), u2_ne (by omega)]
      rfl
    · unfold avw
      rw [hq, u2_ne (by omega), u2_ne (by omega), u2_eq]
      rfl
  · exact Nat.le_max_left _ _
theorem ok_noteArrival {d : Nat} {c : Int32} {k : Unit → M α} (hC : Cs n g) (hD : DI n g) (hA : AvI n g) (hS : SrtF (FV n g)) (hd : d ∈ qL g (n + 10)) (h6 : (qL g (n + 12)).length < 30000) (hk : ∀ g', Nap n g g' (noteA (qi g 701 d) (qi g 702 d) c (AIV n g)) → ok (k ()) g' Q) : ok (bd (X3_noteArrival (n + 9) d c) k) g Q := by
  refine ok_bd ?_
  unfold X3_noteArrival
  have a2 := hA.2.1
  refine ok_gI (cs_disk hC) hA.1 (ok_ck (cs_disk hC) ?_)
  by_cases h0 : acn n g = 0
  · rw [h0]
    refine ok_arrN (by decide) (ok_tail (note_b34 hC hD hA hd h6 (fun g' hn => ok_pu (hk g' ?_))))
    have e : AIV n g = [] := by
      unfold AIV
      rw [h0]
      rfl
    unfold noteA
    rw [e] at hn ⊢
    exact hn
  · obtain ⟨v, hv⟩ := some_of_lt (show acn n g - 1 < (qL g (n + 12)).length by omega)
    have hvm : v ∈ qL g (n + 12) := List.mem_of_getElem? hv
    have kv := hA.2.2.1 v hvm
    have e1 : nI (acn n g) - 1 = nI (acn n g - 1) := by
      have := nI_1 (acn n g - 1)
      rw [show acn n g - 1 + 1 = acn n g by omega] at this
      rw [← this, Int32.add_sub_cancel]
    have ht : v ∈ (qL g (n + 12)).take (acn n g) := by
      have := take_snoc hv
      rw [show acn n g - 1 + 1 = acn n g by omega] at this
      rw [this]
      simp
    have hf := hA.2.2.2.2 v ht
    have hfk := hD.1 _ (List.mem_append_left _ hf)
    have elast : (AIV n g).getLast? = some (avw g v) := by
      unfold AIV
      have := take_snoc hv
      rw [show acn n g - 1 + 1 = acn n g by omega] at this
      rw [this]
      simp
    refine ok_arrS hC e1 hv kv (by omega) ?_
    refine ok_gR (c := 3) kv rfl ?_ ?_
    · show qr g 300 v ≠ 0
      have := hfk.2.2.2
      omega
    · show ok (it (some (qr g 300 v) = some d) _ _) g _
      unfold noteA at hk
      rw [elast] at hk
      by_cases hd2 : qr g 300 v = d
      · refine ok_itT (by rw [hd2]) (ok_gI (c := 3) kv rfl (ok_pI (c := 3) kv (ok_pu ?_)))
        refine hk _ ?_
        have e2 : (avw g v).1 = qi g 701 d ∧ (avw g v).2.1 = qi g 702 d := by
          unfold avw
          rw [hd2]
          exact ⟨rfl, rfl⟩
        simp only
        rw [if_pos e2]
        have := nap_more (c := c) hC hD hA (by omega) hv
        rw [e2.1, e2.2] at this
        exact this
      · refine ok_itF (fun q => hd2 (Option.some.inj q)) (ok_tail (note_b34 hC hD hA hd h6 (fun g' hn => ok_pu (hk g' ?_))))
        simp only
        rw [if_neg]
        · exact hn
        · rintro ⟨q1, q2⟩
          exact hd2 (id_inj hS hf hd q1 q2)
/-- bytes come to the file d, at p in the list -/
def upF (part : List Int32) (f : AF) : AF := (f.1, f.2.1, f.2.2.1 ++ part, gcap f.2.2.2.1 (f.2.2.1 ++ part).length, f.2.2.2.2 + nI part.length)
def grw (c m : Nat) : Nat := if m ≤ c then 0 else gcap c m
/-- behind an append -/
def App (n : Nat) (g g' : Gh) (z : Nat) (fs : List AF) (sv : List Nat) (l : List AV) : Prop := Dp n g g' z ∧ AvI n g' ∧ FV n g' = fs ∧ SV n g' = sv ∧ DSC n g' = DSC n g ∧ AIV n g' = l ∧ (qL g' (n + 12)).length ≤ max (qL g (n + 12)).length (acn n g + 1)
theorem srt_set {fs : List AF} {p : Nat} {f f' : AF} (h : SrtF fs) (hf : fs[p]? = some f) (h1 : f'.1 = f.1) (h2 : f'.2.1 = f.2.1) : SrtF (fs.set p f') := by
  unfold SrtF at *
  rw [List.pairwise_iff_getElem] at *
  intro i j hi hj hij
  rw [List.length_set] at hi hj
  have hp := lt_of_some hf
  rw [List.getElem?_eq_getElem hp] at hf
  have hf := Option.some.inj hf
  have := h i j hi hj hij
  rw [List.getElem_set, List.getElem_set]
  by_cases e1 : p = i
  · subst e1
    rw [if_pos rfl, if_neg (by omega), h1, h2, ← hf]
    exact this
  · rw [if_neg e1]
    by_cases e2 : p = j
    · subst e2
      rw [if_pos rfl, h1, h2, ← hf]
      exact this
    · rw [if_neg e2]
      exact this
theorem addTo_heap {p d : Nat} {l : List Int32} {v : Int32} (hC : Cs n g) (hD : DI n g) (hA : AvI n g) (hd : (qL g (n + 10))[p]? = some d) (h16 : 16 ≤ qC g (d + 1)) : Dp n g (wI (wB g (d + 1) l) 703 d v) (grw (qC g (d + 1)) l.length) ∧ AvI n (wI (wB g (d + 1) l) 703 d v) ∧ FV n (wI (wB g (d + 1) l) 703 d v) = (FV n g).set p (qi g 701 d, qi g 702 d, l, gcap (qC g (d + 1)) l.length, v) ∧ SV n (wI (wB g (d + 1) l) 703 d v) = SV n g ∧ DSC n (wI (wB g (d + 1) l) 703 d v) = DSC n g ∧ AIV n (wI (wB g (d + 1) l) 703 d v) = AIV n g := by
  have hdk := di_at hD hd
  have hdm : d ∈ qL g (n + 10) := List.mem_of_getElem? hd
  have hnd : (qL g (n + 10)).Nodup := (List.nodup_append.mp hD.2).1
  generalize hg2 : wI (wB g (d + 1) l) 703 d v = g2
  have hq : qi g2 = u2 (qi g) 703 d v := by rw [← hg2]; rfl
  have hr : qr g2 = qr g := by rw [← hg2]; rfl
  have hk : qk g2 = qk g := by rw [← hg2]; rfl
  have hL : qL g2 = qL g := by rw [← hg2]; rfl
  have hB : qB g2 = va_up (qB g) (d + 1) l := by rw [← hg2]; rfl
  have hCc : qC g2 = va_up (qC g) (d + 1) (gcap (qC g (d + 1)) l.length) := by rw [← hg2]; rfl
  have hac : acn n g2 = acn n g := by rw [acn, hq, u2_ne (by omega)]; rfl
  refine ⟨⟨?_, ?_, ?_⟩, ⟨?_, ?_, ?_, ?_, ?_⟩, ?_, ?_, ?_, ?_⟩
  · rw [← hg2]
    refine fra_trans (P' := ownD n g) (fra_wB (Or.inr (Or.inr (Or.inl ⟨hdk.2.2.1, hdk.1⟩)))) (fra_wI (Or.inl hdk.1)) (fun _ _ h => h)
  · have h9 := hdk.2.2.2
    have e3 := gcap_2 (c := qC g (d + 1)) (m := l.length) h16
    have e1 : rsum n g2 = rsum n g := by
      unfold rsum
      rw [hCc, hL, ← hg2]
      rw [vu_ne (by omega), vu_ne (by omega), vu_ne (by omega), vu_ne (by omega), vu_ne (by omega), vu_ne (by omega)]
      rfl
    have e2 : ccnt n g2 = ccnt n g := by
      unfold ccnt
      rw [hL, ← hg2]
      rfl
    refine ⟨?_, fun hCE => ?_⟩
    · unfold acc2
      rw [e1, e2, ← hg2]
      simp only [p_qn_wI, p_qs_wI, p_qk_wI, p_qi_wI, p_qr_wI, p_qB_wI, p_qC_wI, p_qL_wI, p_qE_wI, p_qA_wI, p_qW_wI, p_qn_wR, p_qs_wR, p_qk_wR, p_qi_wR, p_qr_wR, p_qB_wR, p_qC_wR, p_qL_wR, p_qE_wR, p_qA_wR, p_qW_wR, p_qn_wB, p_qs_wB, p_qk_wB, p_qi_wB, p_qr_wB, p_qB_wB, p_qC_wB, p_qL_wB, p_qE_wB, p_qA_wB, p_qW_wB, p_qn_wX, p_qs_wX, p_qk_wX, p_qi_wX, p_qr_wX, p_qB_wX, p_qC_wX, p_qL_wX, p_qE_wX, p_qA_wX, p_qW_wX, p_qn_wL, p_qs_wL, p_qk_wL, p_qi_wL, p_qr_wL, p_qB_wL, p_qC_wL, p_qL_wL, p_qE_wL, p_qA_wL, p_qW_wL, p_qn_wl, p_qs_wl, p_qk_wl, p_qi_wl, p_qr_wl, p_qB_wl, p_qC_wl, p_qL_wl, p_qE_wl, p_qA_wl, p_qW_wl, p_qn_wA, p_qs_wA, p_qk_wA, p_qi_wA, p_qr_wA, p_qB_wA, p_qC_wA, p_qL_wA, p_qE_wA, p_qA_wA, p_qW_wA, p_qn_wW, p_qs_wW, p_qk_wW, p_qi_wW, p_qr_wW, p_qB_wW, p_qC_wW, p_qL_wW, p_qE_wW, p_qA_wW, p_qW_wW, p_qn_wO, p_qs_wO, p_qk_wO, p_qi_wO, p_qr_wO, p_qB_wO, p_qC_wO, p_qL_wO, p_qE_wO, p_qA_wO, p_qW_wO, p_qn_wNB, p_qs_wNB, p_qk_wNB, p_qi_wNB, p_qr_wNB, p_qB_wNB, p_qC_wNB, p_qL_wNB, p_qE_wNB, p_qA_wNB, p_qW_wNB, p_qn_wNL, p_qs_wNL, p_qk_wNL, p_qi_wNL, p_qr_wNL, p_qB_wNL, p_qC_wNL, p_qL_wNL, p_qE_wNL, p_qA_wNL, p_qW_wNL, p_qn_wF, p_qs_wF, p_qk_wF, p_qi_wF, p_qr_wF, p_qB_wF, p_qC_wF, p_qL_wF, p_qE_wF, p_qA_wF, p_qW_wF, vup]
      unfold grw
      omega
    · unfold CE at hCE ⊢
      rw [hCc, hL]
      rw [vu_ne (by omega), vu_ne (by omega), vu_ne (by omega), vu_ne (by omega), ← hg2]
      exact hCE
  · refine ⟨fun x hx => ?_, by rw [hL]; exact hD.2⟩
    rw [hL] at hx
    obtain ⟨b1, b2, b3, b4⟩ := hD.1 x hx
    exact ⟨by rw [hk]; exact b1, by rw [hr]; exact b2, by rw [hk]; exact b3, b4⟩
  · rw [hac, hq, u2_ne (by omega)]
    exact hA.1
  · rw [hac, hL]
    exact hA.2.1
  · rw [hk, hL]
    exact hA.2.2.1
  · rw [hL]
    exact hA.2.2.2.1
  · rw [hac, hL, hr]
    exact hA.2.2.2.2
  · unfold FV
    rw [hL]
    refine map_upd hnd hd (fun x hx hne => ?_) ?_
    · unfold fvw
      rw [hq, hB, hCc, u2_ne (by omega), u2_ne (by omega), u2_ne (by omega), vu_ne (by omega), vu_ne (by omega)]
    · unfold fvw
      rw [hq, hB, hCc, u2_ne (by omega), u2_ne (by omega), u2_eq, vu_eq, vu_eq]
  · unfold SV
    rw [hL]
    apply List.map_congr_left
    intro x hx
    have : x ≠ d := fun q => (List.nodup_append.mp hD.2).2.2 d hdm x hx q.symm
    rw [hCc, vu_ne (by omega)]
  · unfold DSC
    rw [hq, u2_ne (by omega), u2_ne (by omega), u2_ne (by omega)]
  · unfold AIV
    rw [hac, hL]
    apply List.map_congr_left
    intro w _
    unfold avw
    rw [hq, hr, u2_ne (by omega), u2_ne (by omega), u2_ne (by omega)]
theorem ok_b60 {p d c f m : Nat} {x y : Int32} {k : Unit → M α} (hC : Cs n g) (hD : DI n g) (hA : AvI n g) (hS : SrtF (FV n g)) (hd : (qL g (n + 10))[p]? = some d) (hc : qk g c = 5) (hcd : c ≠ d + 1) (hx : x = nI f) (hy : y = nI m) (hl : f + m ≤ (qB g c).length) (h6 : (qB g (d + 1)).length + m ≤ 30000) (h12 : (qL g (n + 12)).length < 30000)
    (hk : ∀ g', App n g g' (grw (qC g (d + 1)) ((qB g (d + 1)).length + m)) ((FV n g).set p (upF (((qB g c).drop f).take m) (fvw g d))) (SV n g) (noteA (qi g 701 d) (qi g 702 d) (nI m) (AIV n g)) → ok (k ()) g' Q) : ok (bd (X3_append_b60 (n + 9) c x y (some d)) k) g Q := by
  have hdk := di_at hD hd
  have hdm : d ∈ qL g (n + 10) := List.mem_of_getElem? hd
  refine ok_nz (fun hz => ok_capB hdk.2.2.1 (fun hcap h16 => ok_bd ?_))
  show ok (bd (gR 7 0 d) _) g _
  refine ok_dby hdk (ok_ck hdk.2.2.1 (ok_bpart hdk.2.2.1 hc hcd hx hy hl h6 (ok_gI (c := 7) hdk.1 rfl (ok_pI (c := 7) hdk.1 ?_))))
  generalize hpt : ((qB g c).drop f).take m = part
  have hpl : part.length = m := by rw [← hpt, List.length_take, List.length_drop]; omega
  show ok (bd (ck 6 (n + 9)) _) (wI (wB g (d + 1) (qB g (d + 1) ++ part)) 703 d (qi g 703 d + y)) _
  obtain ⟨p1, p2, p3, p4, p5, p6⟩ := addTo_heap (l := qB g (d + 1) ++ part) (v := qi g 703 d + y) hC hD hA hd h16
  rw [hpt] at hk
  have l1 : qL (wI (wB g (d + 1) (qB g (d + 1) ++ part)) 703 d (qi g 703 d + y)) = qL g := rfl
  have l2 : qi (wI (wB g (d + 1) (qB g (d + 1) ++ part)) 703 d (qi g 703 d + y)) = u2 (qi g) 703 d (qi g 703 d + y) := rfl
  generalize wI (wB g (d + 1) (qB g (d + 1) ++ part)) 703 d (qi g 703 d + y) = g2 at *
  have hC2 := cs_fra hC p1.1 hz
  have l3 : qi g2 701 d = qi g 701 d := by rw [l2, u2_ne (by omega)]
  have l4 : qi g2 702 d = qi g 702 d := by rw [l2, u2_ne (by omega)]
  have l5 : acn n g2 = acn n g := by rw [acn, l2, u2_ne (by omega)]; rfl
  have hS2 : SrtF (FV n g2) := by
    rw [p3]
    exact srt_set hS (fv_at hd) rfl rfl
  refine ok_ck (cs_disk hC2) (ok_noteArrival hC2 p1.2.2 p2 hS2 (by rw [l1]; exact hdm) (by rw [l1]; exact h12) (fun g' hn => ok_pu (hk g' ?_)))
  obtain ⟨n1, n2, n3, n4, n5, n6, n7⟩ := hn
  refine ⟨⟨frD_trans p1.1 n1.1, ?_, n1.2.2⟩, n2, ?_, n4.trans p4, n5.trans p5, ?_, ?_⟩
  · have := acc_trans p1.2.1 n1.2.1
    rw [Nat.add_zero, List.length_append, hpl] at this
    exact this
  · rw [n3, p3]
    unfold upF fvw
    rw [hpl, hy]
  · rw [n6, l3, l4, p6, hy]
  · rw [l1, l5] at n7
    exact n7
end
