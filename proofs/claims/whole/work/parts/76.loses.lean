/-! the reference: bytes go -/
theorem disk_lose {A X Z Y : List Int32} (h : A.take (X.length + Z.length + Y.length) = X ++ Z ++ Y) (hl : X.length + Z.length + Y.length ≤ A.length) : (shl A (X.length + Z.length) (X.length + Z.length + Y.length) Z.length).take (X.length + Y.length) = X ++ Y := by
  have hA : ∀ j, j < X.length + Z.length + Y.length → A[j]? = (X ++ Z ++ Y)[j]? := by
    intro j hj
    rw [← h, List.getElem?_take, if_pos hj]
  apply List.ext_getElem?
  intro j
  rw [List.getElem?_take]
  by_cases c0 : j < X.length + Y.length
  · rw [if_pos c0, shl_get (by omega) (by omega) (by omega)]
    by_cases c1 : j < X.length
    · rw [if_pos (by omega), hA j (by omega), List.append_assoc, List.getElem?_append_left c1, List.getElem?_append_left c1]
    · rw [if_neg (by omega), if_pos (by omega), hA _ (by omega), List.getElem?_append_right (by rw [List.length_append]; omega), List.getElem?_append_right (by omega), List.length_append]
      congr 1
      omega
  · rw [if_neg c0, List.getElem?_eq_none]
    rw [List.length_append]
    omega
theorem take_shl_er {α : Type} {A l : List α} {f : Nat} (h : A.take l.length = l) (hf : f < l.length) (hl : l.length ≤ A.length) : (shl A (f + 1) l.length 1).take (l.length - 1) = l.eraseIdx f := by
  have hA : ∀ j, j < l.length → A[j]? = l[j]? := by
    intro j hj
    have e : l[j]? = (A.take l.length)[j]? := by rw [h]
    rw [e, List.getElem?_take, if_pos hj]
  apply List.ext_getElem?
  intro j
  rw [List.getElem?_take, List.getElem?_eraseIdx]
  by_cases c0 : j < l.length - 1
  · rw [if_pos c0, shl_get (by omega) (by omega) hl]
    by_cases c1 : j < f
    · rw [if_pos (by omega), if_pos c1]
      exact hA j (by omega)
    · rw [if_neg (by omega), if_pos (by omega), if_neg c1]
      exact hA _ (by omega)
  · rw [if_neg c0]
    by_cases c1 : j < f
    · omega
    · rw [if_neg c1, List.getElem?_eq_none (by omega)]
section
variable {m : Nat} {g : Gh} {S : MS} {α : Type} {fs : List AF} {ps : List AV}
/-- what is left of the files -/
def losM (f n : Nat) (x : AF) (fs : List AF) : List AF := if n = x.2.2.1.length then fs.eraseIdx f else fs.set f (x.1, x.2.1, x.2.2.1.take (x.2.2.1.length - n), 0, 0)
theorem m_b90 {f N : Nat} {Q : Unit → MS → Prop} {A2 A3 A4 : List Int32} (hM : Mk m g) (l2 : A2.length = 4200) (l3 : A3.length = 4200) (l4 : A4.length = 4200) (hN : N ≤ 4000) (hf : f < N) (h8 : S.1 8 = nI (N - 1)) (hq : Q () (up3 S (shl A2 (f + 1) N 1) (shl A3 (f + 1) N 1) (shl A4 (f + 1) N 1))) : ∀ (w k : Nat), N - k < w → f ≤ k → k < N → okM m g (X9_loses_b90 w m (nI k)) (up3 S (shl A2 (f + 1) (k + 1) 1) (shl A3 (f + 1) (k + 1) 1) (shl A4 (f + 1) (k + 1) 1)) Q := by
  intro w
  induction w with
  | zero => intro k h; omega
  | succ w ih =>
    intro k hw hk hk2
    show okM m g (X9_loses_b90b (X9_loses_b90 w) m (nI k)) _ Q
    unfold X9_loses_b90b
    refine oM_gI hM ?_
    have e8 : (up3 S (shl A2 (f + 1) (k + 1) 1) (shl A3 (f + 1) (k + 1) 1) (shl A4 (f + 1) (k + 1) 1)).1 8 = nI (N - 1) := h8
    rw [e8]
    by_cases c : k < N - 1
    · obtain ⟨v2, hv2⟩ := some_of_lt (show k + 1 < A2.length by omega)
      obtain ⟨v3, hv3⟩ := some_of_lt (show k + 1 < A3.length by omega)
      obtain ⟨v4, hv4⟩ := some_of_lt (show k + 1 < A4.length by omega)
      have get : ∀ {A : List Int32} {v : Int32}, A.length = 4200 → A[k + 1]? = some v → (shl A (f + 1) (k + 1) 1)[k + 1]? = some v := by
        intro A v hA hv
        rw [shl_same (by omega) (by omega) (by omega)]
        exact hv
      have stp : ∀ {A : List Int32} {v : Int32}, A.length = 4200 → A[k + 1]? = some v → (shl A (f + 1) (k + 1) 1).set k v = shl A (f + 1) (k + 1 + 1) 1 := by
        intro A v hA hv
        have := shl_step (A := A) (lo := f + 1) (d := 1) (c := k + 1) (v := v) (by omega) (by omega) (by omega) hv
        rw [Nat.add_sub_cancel] at this
        exact this
      rw [nI_1]
      refine oM_itF (nI_ge c (by omega)) (oM_gR hM (oM_gR hM (oM_al (q := 2) hM rfl (get l2 hv2) (oM_as (q := 2) hM rfl ?_ (oM_gR hM (oM_gR hM (oM_al (q := 3) hM rfl (get l3 hv3) (oM_as (q := 3) hM rfl ?_ (oM_gR hM (oM_gR hM (oM_al (q := 4) hM rfl (get l4 hv4) (oM_as (q := 4) hM rfl ?_ ?_))))))))))))
      · show k < (shl A2 (f + 1) (k + 1) 1).length
        rw [shl_len (by omega) (by omega) (by omega)]
        omega
      · show k < (shl A3 (f + 1) (k + 1) 1).length
        rw [shl_len (by omega) (by omega) (by omega)]
        omega
      · show k < (shl A4 (f + 1) (k + 1) 1).length
        rw [shl_len (by omega) (by omega) (by omega)]
        omega
      · have e : okM m g (X9_loses_b90 w m (nI (k + 1))) (upA (upA (upA (up3 S (shl A2 (f + 1) (k + 1) 1) (shl A3 (f + 1) (k + 1) 1) (shl A4 (f + 1) (k + 1) 1)) 2 ((shl A2 (f + 1) (k + 1) 1).set k v2)) 3 ((shl A3 (f + 1) (k + 1) 1).set k v3)) 4 ((shl A4 (f + 1) (k + 1) 1).set k v4)) Q := by
          rw [up3_up, stp l2 hv2, stp l3 hv3, stp l4 hv4]
          exact ih (k + 1) (by omega) (by omega) (by omega)
        exact e
    · have ek : k + 1 = N := by omega
      rw [ek]
      exact oM_itT (nI_le (by omega) (by omega)) (oM_pu hq)
theorem m_b16 {f n : Nat} {x : AF} {Q : Unit → MS → Prop} (hM : Mk m g) (hR : RepF S fs) (hf : fs[f]? = some x) (hn : n ≤ x.2.2.1.length) (hq : ∀ S', RepF S' (losM f n x fs) → mfr [4, 8] [1, 2, 3, 4] S S' → Q () S') : ∀ (w c : Nat), totF fs - c < w → totF (fs.take f) + x.2.2.1.length ≤ c → c ≤ totF fs → okM m g (X9_loses_b16 w m (nI f) (nI n) (nI c)) (upA S 1 (shl (S.2 1) (totF (fs.take f) + x.2.2.1.length) c n)) Q := by
  have hR0 := hR
  obtain ⟨⟨r1, r2, r3, r4⟩, ⟨l1, l2, l3, l4⟩, p2, p3, p4, p1, nr⟩ := hR
  have hfl := lt_of_some hf
  have eT := totF_take hf
  obtain ⟨n1, n2, n3⟩ := rf_n hR0 hf
  intro w
  induction w with
  | zero => intro c h; omega
  | succ w ih =>
    intro c hw hc hc2
    show okM m g (X9_loses_b16b (X9_loses_b16 w) m (nI f) (nI n) (nI c)) _ Q
    unfold X9_loses_b16b
    have e4 : (upA S 1 (shl (S.2 1) (totF (fs.take f) + x.2.2.1.length) c n)).1 4 = nI (totF fs) := r2
    refine oM_gI hM ?_
    rw [e4]
    by_cases cc : c < totF fs
    · obtain ⟨v, hv⟩ := some_of_lt (show c < (S.2 1).length by omega)
      have hb8 : b8 v = v := nrm_get nr hv
      have hget : ((upA S 1 (shl (S.2 1) (totF (fs.take f) + x.2.2.1.length) c n)).2 1)[c]? = some v := by
        show (shl (S.2 1) _ c n)[c]? = _
        rw [shl_same (by omega) (by omega) (by omega)]
        exact hv
      refine oM_itF (nI_ge cc (by omega)) (oM_gR hM (oM_gR hM (oM_al (q := 1) hM rfl hget (oM_as (q := 1) (i := c - n) hM (nI_subN (by omega)) ?_ ?_))))
      · show c - n < (shl (S.2 1) _ c n).length
        rw [shl_len (by omega) (by omega) (by omega)]
        omega
      · rw [nI_1]
        have e : upA (upA S 1 (shl (S.2 1) (totF (fs.take f) + x.2.2.1.length) c n)) 1 (((upA S 1 (shl (S.2 1) (totF (fs.take f) + x.2.2.1.length) c n)).2 1).set (c - n) (if (21 : Nat) = 21 then v.toInt8.toInt32 else v)) = upA S 1 (shl (S.2 1) (totF (fs.take f) + x.2.2.1.length) (c + 1) n) := by
          rw [if_pos rfl]
          have e1 : v.toInt8.toInt32 = v := hb8
          rw [e1]
          show (S.1, va_up (va_up S.2 1 _) 1 _) = _
          rw [va_va]
          have e2 : (upA S 1 (shl (S.2 1) (totF (fs.take f) + x.2.2.1.length) c n)).2 1 = shl (S.2 1) (totF (fs.take f) + x.2.2.1.length) c n := rfl
          rw [e2, shl_step (by omega) (by omega) (by omega) hv]
          rfl
        rw [e]
        exact ih (c + 1) (by omega) (by omega) (by omega)
    · have ec : c = totF fs := by omega
      subst ec
      generalize hDk : shl (S.2 1) (totF (fs.take f) + x.2.2.1.length) (totF fs) n = Dk
      have hDl : Dk.length = 16384 := by
        rw [← hDk, shl_len (by omega) (by omega) (by omega)]
        exact l1
      have hDn : nrm Dk := by rw [← hDk]; exact nrm_shl nr
      -- what lies on the disk now
      have hDt : Dk.take (totF fs - n) = ((fs.take f).flatMap (fun f => f.2.2.1) ++ x.2.2.1.take (x.2.2.1.length - n)) ++ (fs.drop (f + 1)).flatMap (fun f => f.2.2.1) := by
        have efs : fs = fs.take f ++ x :: fs.drop (f + 1) := by rw [← drop_cons hf, List.take_append_drop]
        have efl : fs.flatMap (fun f => f.2.2.1) = ((fs.take f).flatMap (fun f => f.2.2.1) ++ x.2.2.1.take (x.2.2.1.length - n)) ++ x.2.2.1.drop (x.2.2.1.length - n) ++ (fs.drop (f + 1)).flatMap (fun f => f.2.2.1) := by
          conv => lhs; rw [efs]
          rw [List.flatMap_append, List.flatMap_cons]
          simp only [List.append_assoc]
          rw [← List.append_assoc (x.2.2.1.take _), List.take_append_drop]
        have hX : ((fs.take f).flatMap (fun f => f.2.2.1) ++ x.2.2.1.take (x.2.2.1.length - n)).length = totF (fs.take f) + (x.2.2.1.length - n) := by
          rw [List.length_append, totF_len, List.length_take]
          omega
        have hZ : (x.2.2.1.drop (x.2.2.1.length - n)).length = n := by rw [List.length_drop]; omega
        have hY : ((fs.drop (f + 1)).flatMap (fun f => f.2.2.1)).length = totF (fs.drop (f + 1)) := totF_len _
        have := disk_lose (A := S.2 1) (X := (fs.take f).flatMap (fun f => f.2.2.1) ++ x.2.2.1.take (x.2.2.1.length - n)) (Z := x.2.2.1.drop (x.2.2.1.length - n)) (Y := (fs.drop (f + 1)).flatMap (fun f => f.2.2.1)) (by rw [hX, hY, hZ, ← efl, ← p1]; congr 1; omega) (by rw [hX, hY, hZ]; omega)
        rw [hX, hY, hZ] at this
        rw [← this, ← hDk]
        congr 1
        · omega
        · congr 1
          · omega
          · omega
      refine oM_itT (nI_le (Nat.le_refl _) (by omega)) (oM_gI hM (oM_pI hM (oM_gR hM (oM_al (q := 4) hM rfl n3 (oM_as (q := 4) hM rfl ?_ (oM_gR hM (oM_al (q := 4) (i := f) (v := nI (x.2.2.1.length - n)) hM rfl ?_ ?_)))))))
      · show f < (S.2 4).length
        omega
      · show ((S.2 4).set f (nI x.2.2.1.length - nI n))[f]? = _
        rw [List.getElem?_set, if_pos rfl, if_pos (by omega), nI_subN hn]
      · have eS : ∀ (R : MS → Prop), R (upA (upI (upA S 1 Dk) 4 (nI (totF fs - n))) 4 ((S.2 4).set f (nI (x.2.2.1.length - n)))) → R (upA (upI (upA S 1 Dk) 4 ((upA S 1 Dk).1 4 - nI n)) 4 (((upI (upA S 1 Dk) 4 ((upA S 1 Dk).1 4 - nI n)).2 4).set f (if (22 : Nat) = 21 then (nI x.2.2.1.length - nI n).toInt8.toInt32 else nI x.2.2.1.length - nI n))) := by
          intro R hR
          have a1 : (upA S 1 Dk).1 4 - nI n = nI (totF fs - n) := by
            show S.1 4 - nI n = _
            rw [r2, nI_subN (by omega)]
          have a2 : nI x.2.2.1.length - nI n = nI (x.2.2.1.length - n) := nI_subN hn
          rw [if_neg (by decide), a1, a2]
          exact hR
        refine eS (fun T => okM m g _ T Q) ?_
        generalize hS1 : upA (upI (upA S 1 Dk) 4 (nI (totF fs - n))) 4 ((S.2 4).set f (nI (x.2.2.1.length - n))) = S1
        have s1 : S1.2 1 = Dk := by rw [← hS1]; rfl
        have s2 : S1.2 2 = S.2 2 := by rw [← hS1]; rfl
        have s3 : S1.2 3 = S.2 3 := by rw [← hS1]; rfl
        have s4 : S1.2 4 = (S.2 4).set f (nI (x.2.2.1.length - n)) := by rw [← hS1]; rfl
        have i4 : S1.1 4 = nI (totF fs - n) := by rw [← hS1]; rfl
        have i8 : S1.1 8 = nI fs.length := by rw [← hS1]; exact r1
        have fr1 : mfr [4, 8] [1, 2, 3, 4] S S1 := by
          rw [← hS1]
          exact mfr_tr (mfr_tr (mfr_A (by decide)) (mfr_I (by decide))) (mfr_A (by decide))
        by_cases hz : n = x.2.2.1.length
        · have e0 : x.2.2.1.length - n = 0 := by omega
          rw [e0]
          refine oM_itT (Int32.le_refl _) (oM_gI hM (oM_pI hM ?_))
          rw [i8]
          have e8 : nI fs.length - 1 = nI (fs.length - 1) := nI_subN (b := 1) (by omega)
          rw [e8]
          have : FU = 1000000 := rfl
          have hz2 := m_b90 (S := upI S1 8 (nI (fs.length - 1))) (f := f) (N := fs.length) (A2 := S.2 2) (A3 := S.2 3) (A4 := (S.2 4).set f (nI (x.2.2.1.length - n))) (Q := Q) hM l2 l3 (by rw [List.length_set]; exact l4) r4 hfl rfl ?_ FU f (by omega) (Nat.le_refl _) hfl
          · rw [shl_bot, shl_bot, shl_bot] at hz2
            have e : up3 (upI S1 8 (nI (fs.length - 1))) (S.2 2) (S.2 3) ((S.2 4).set f (nI (x.2.2.1.length - n))) = upI S1 8 (nI (fs.length - 1)) := by
              have := up3_id (S := upI S1 8 (nI (fs.length - 1)))
              have b2 : (upI S1 8 (nI (fs.length - 1))).2 2 = S.2 2 := s2
              have b3 : (upI S1 8 (nI (fs.length - 1))).2 3 = S.2 3 := s3
              have b4 : (upI S1 8 (nI (fs.length - 1))).2 4 = (S.2 4).set f (nI (x.2.2.1.length - n)) := s4
              rw [b2, b3, b4] at this
              exact this
            rw [e] at hz2
            exact hz2
          · refine hq _ ?_ ?_
            · unfold losM
              rw [if_pos hz]
              have etot : totF (fs.eraseIdx f) = totF fs - n := by
                rw [List.eraseIdx_eq_take_drop_succ, totF_app]
                omega
              have elen : (fs.eraseIdx f).length = fs.length - 1 := List.length_eraseIdx_of_lt hfl
              refine ⟨⟨?_, ?_, ?_, ?_⟩, ⟨?_, ?_, ?_, ?_⟩, ?_, ?_, ?_, ?_, ?_⟩
              · rw [elen]
                rfl
              · rw [etot]
                exact i4
              · rw [etot]
                omega
              · rw [elen]
                omega
              · show (S1.2 1).length = _
                rw [s1]
                exact hDl
              · show (shl (S.2 2) (f + 1) fs.length 1).length = _
                rw [shl_len (by omega) (by omega) (by omega)]
                exact l2
              · show (shl (S.2 3) (f + 1) fs.length 1).length = _
                rw [shl_len (by omega) (by omega) (by omega)]
                exact l3
              · show (shl ((S.2 4).set f _) (f + 1) fs.length 1).length = _
                rw [shl_len (by omega) (by omega) (by rw [List.length_set]; omega), List.length_set]
                exact l4
              · rw [elen, map_er]
                show (shl (S.2 2) (f + 1) fs.length 1).take (fs.length - 1) = _
                have := take_shl_er (A := S.2 2) (l := fs.map (fun f => f.1)) (f := f) (by rw [List.length_map]; exact p2) (by rw [List.length_map]; exact hfl) (by rw [List.length_map]; omega)
                rw [List.length_map] at this
                exact this
              · rw [elen, map_er]
                show (shl (S.2 3) (f + 1) fs.length 1).take (fs.length - 1) = _
                have := take_shl_er (A := S.2 3) (l := fs.map (fun f => f.2.1)) (f := f) (by rw [List.length_map]; exact p3) (by rw [List.length_map]; exact hfl) (by rw [List.length_map]; omega)
                rw [List.length_map] at this
                exact this
              · rw [elen, map_er]
                show (shl ((S.2 4).set f (nI (x.2.2.1.length - n))) (f + 1) fs.length 1).take (fs.length - 1) = _
                have := take_shl_er (A := (S.2 4).set f (nI (x.2.2.1.length - n))) (l := (fs.map (fun f => nI f.2.2.1.length)).set f (nI (x.2.2.1.length - n))) (f := f) (by rw [List.length_set, List.length_map, List.take_set, p4]) (by rw [List.length_set, List.length_map]; exact hfl) (by rw [List.length_set, List.length_map, List.length_set]; omega)
                rw [List.length_set, List.length_map, List.eraseIdx_set_eq] at this
                exact this
              · rw [etot]
                show (S1.2 1).take (totF fs - n) = _
                rw [s1, hDt, hz, Nat.sub_self, List.take_zero, List.append_nil, List.eraseIdx_eq_take_drop_succ, List.flatMap_append]
              · show ∀ v, v ∈ S1.2 1 → b8 v = v
                rw [s1]
                exact hDn
            · refine mfr_tr fr1 ⟨fun j hj => vu_ne (fun e => hj (by rw [e]; decide)), fun q hq => ?_⟩
              show (if q = 2 then _ else if q = 3 then _ else if q = 4 then _ else S1.2 q) = _
              rw [if_neg (fun e => hq (by rw [e]; decide)), if_neg (fun e => hq (by rw [e]; decide)), if_neg (fun e => hq (by rw [e]; decide))]
        · refine oM_itF (nI_ge (a := 0) (by omega) (by omega)) (oM_pu (hq _ ?_ fr1))
          unfold losM
          rw [if_neg hz]
          have esp : fs.set f (x.1, x.2.1, x.2.2.1.take (x.2.2.1.length - n), 0, 0) = fs.take f ++ (x.1, x.2.1, x.2.2.1.take (x.2.2.1.length - n), 0, 0) :: fs.drop (f + 1) := set_split hf
          have etot : totF (fs.set f (x.1, x.2.1, x.2.2.1.take (x.2.2.1.length - n), 0, 0)) = totF fs - n := by
            rw [esp, totF_app]
            show totF (fs.take f) + ((x.2.2.1.take (x.2.2.1.length - n)).length + totF (fs.drop (f + 1))) = _
            rw [List.length_take]
            omega
          refine ⟨⟨?_, ?_, ?_, ?_⟩, ⟨?_, ?_, ?_, ?_⟩, ?_, ?_, ?_, ?_, ?_⟩
          · rw [List.length_set]
            exact i8
          · rw [etot]
            exact i4
          · rw [etot]
            omega
          · rw [List.length_set]
            exact r4
          · rw [s1]
            exact hDl
          · rw [s2]
            exact l2
          · rw [s3]
            exact l3
          · rw [s4, List.length_set]
            exact l4
          · rw [List.length_set, List.map_set, s2, p2]
            apply List.ext_getElem?
            intro j
            rw [List.getElem?_set]
            by_cases c : f = j
            · subst c
              rw [if_pos rfl, if_pos (by rw [List.length_map]; exact hfl), List.getElem?_map, hf]
              rfl
            · rw [if_neg c]
          · rw [List.length_set, List.map_set, s3, p3]
            apply List.ext_getElem?
            intro j
            rw [List.getElem?_set]
            by_cases c : f = j
            · subst c
              rw [if_pos rfl, if_pos (by rw [List.length_map]; exact hfl), List.getElem?_map, hf]
              rfl
            · rw [if_neg c]
          · rw [List.length_set, List.map_set, s4, List.take_set, p4, List.length_take]
            congr 2
            omega
          · rw [etot, s1, hDt, esp, List.flatMap_append, List.flatMap_cons, List.append_assoc]
          · rw [s1]
            exact hDn
theorem m_loses {f n : Nat} {x : AF} {y z : Int32} {k : Unit → M α} {Q : α → MS → Prop} (hM : Mk m g) (hR : RepF S fs) (hf : fs[f]? = some x) (hy : y = nI f) (hz : z = nI n) (hn : n ≤ x.2.2.1.length) (hk : ∀ S', RepF S' (losM f n x fs) → mfr [4, 8] [1, 2, 3, 4] S S' → okM m g (k ()) S' Q) : okM m g (bd (X9_loses m y z) k) S Q := by
  subst hy hz
  refine oM_bd ?_
  unfold X9_loses
  have hfl := lt_of_some hf
  obtain ⟨n1, n2, n3⟩ := rf_n hR hf
  have eT := totF_take hf
  refine oM_ck hM (m_startOf hM hR rfl (by omega) (oM_gR hM (oM_al (q := 4) hM rfl n3 (oM_bpu ?_))))
  rw [nI_add]
  have : FU = 1000000 := rfl
  have hz := m_b16 (Q := fun v S1 => okM m g (k v) S1 Q) hM hR hf hn hk FU (totF (fs.take f) + x.2.2.1.length) (by have := hR.1.2.2.1; omega) (Nat.le_refl _) (by omega)
  rw [shl_bot] at hz
  have : upA S 1 (S.2 1) = S := by
    unfold upA
    rw [va_same rfl]
  rw [this] at hz
  exact hz
end
