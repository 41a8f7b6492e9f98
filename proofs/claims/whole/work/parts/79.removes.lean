/-! the reference: files that are removed, what is drafted -/
def up567 (S : MS) (a b c : List Int32) : MS := (S.1, fun q => if q = 5 then a else if q = 6 then b else if q = 7 then c else S.2 q)
theorem up567_up {S : MS} {a b c a' b' c' : List Int32} : upA (upA (upA (up567 S a b c) 5 a') 6 b') 7 c' = up567 S a' b' c' := by
  unfold upA up567
  congr 1
  funext q
  dsimp only
  unfold va_up
  by_cases c2 : q = 5
  · subst c2
    rfl
  · by_cases c3 : q = 6
    · subst c3
      rfl
    · by_cases c4 : q = 7
      · subst c4
        rfl
      · simp only [if_neg c4, if_neg c3, if_neg c2]
theorem up567_id {S : MS} : up567 S (S.2 5) (S.2 6) (S.2 7) = S := by
  unfold up567
  have : (fun q => if q = 5 then S.2 5 else if q = 6 then S.2 6 else if q = 7 then S.2 7 else S.2 q) = S.2 := by
    funext q
    by_cases c2 : q = 5
    · subst c2
      rfl
    · rw [if_neg c2]
      by_cases c3 : q = 6
      · subst c3
        rfl
      · rw [if_neg c3]
        by_cases c4 : q = 7
        · subst c4
          rfl
        · rw [if_neg c4]
  rw [this]
def notP (a b : Int32) (p : AV) : Bool := !decide (p.1 = a ∧ p.2.1 = b)
/-- a row of the pieces, on the way -/
def cmpc (A B l : List Int32) (k : Nat) : Prop := B.length = A.length ∧ B.take l.length = l ∧ ∀ j, k ≤ j → B[j]? = A[j]?
theorem cmpc_step {A B l : List Int32} {k : Nat} {v : Int32} (h : cmpc A B l k) (hl : l.length ≤ k) (hv : A[k]? = some v) : cmpc A (B.set l.length v) (l ++ [v]) (k + 1) := by
  obtain ⟨h1, h2, h3⟩ := h
  have hk := lt_of_some hv
  refine ⟨by rw [List.length_set]; exact h1, ?_, fun j hj => ?_⟩
  · rw [List.length_append]
    exact take_snoc_set h2 (by omega)
  · rw [List.getElem?_set, if_neg (by omega)]
    exact h3 j (by omega)
theorem cmpc_skip {A B l : List Int32} {k : Nat} (h : cmpc A B l k) : cmpc A B l (k + 1) := ⟨h.1, h.2.1, fun j hj => h.2.2 j (by omega)⟩
section
variable {m : Nat} {g : Gh} {S : MS} {α : Type} {fs : List AF} {ps : List AV}
theorem m_rem_loop {a b : Int32} {Q : Unit → MS → Prop} (hM : Mk m g) (hP : RepP S ps) (hq : ∀ S', RepP S' (ps.filter (notP a b)) → mfr [12] [5, 6, 7] S S' → Q () S') : ∀ (w k : Nat) (B5 B6 B7 : List Int32), ps.length - k < w → k ≤ ps.length → cmpc (S.2 5) B5 (((ps.take k).filter (notP a b)).map (fun p => p.1)) k → cmpc (S.2 6) B6 (((ps.take k).filter (notP a b)).map (fun p => p.2.1)) k → cmpc (S.2 7) B7 (((ps.take k).filter (notP a b)).map (fun p => p.2.2)) k → okM m g (X9_removes_b39 w m a b (nI ((ps.take k).filter (notP a b)).length) (nI k)) (up567 S B5 B6 B7) Q := by
  have hP0 := hP
  obtain ⟨⟨q1, q2⟩, ⟨s5, s6, s7⟩, t5, t6, t7⟩ := hP
  intro w
  induction w with
  | zero => intro k B5 B6 B7 h; omega
  | succ w ih =>
    intro k B5 B6 B7 hw hk c5 c6 c7
    show okM m g (X9_removes_b39b (X9_removes_b39 w) m a b (nI ((ps.take k).filter (notP a b)).length) (nI k)) _ Q
    unfold X9_removes_b39b X9_removes_b73 X9_removes_b118
    have i12 : (up567 S B5 B6 B7).1 12 = nI ps.length := q1
    have hfl : ((ps.take k).filter (notP a b)).length ≤ k := by
      have := List.length_filter_le (notP a b) (ps.take k)
      rw [List.length_take] at this
      omega
    refine oM_gI hM ?_
    rw [i12]
    by_cases c : k < ps.length
    · obtain ⟨p, hp⟩ := some_of_lt c
      obtain ⟨n5, n6, n7⟩ := rp_n hP0 hp
      have g5 : ((up567 S B5 B6 B7).2 5)[k]? = some p.1 := (c5.2.2 k (Nat.le_refl _)).trans n5
      have g6 : ((up567 S B5 B6 B7).2 6)[k]? = some p.2.1 := (c6.2.2 k (Nat.le_refl _)).trans n6
      have g7 : ((up567 S B5 B6 B7).2 7)[k]? = some p.2.2 := (c7.2.2 k (Nat.le_refl _)).trans n7
      have etk : (ps.take (k + 1)).filter (notP a b) = (ps.take k).filter (notP a b) ++ (if notP a b p = true then [p] else []) := by
        rw [take_snoc hp, List.filter_append, List.filter_cons, List.filter_nil]
      have l5 : (((ps.take k).filter (notP a b)).map (fun p => p.1)).length = ((ps.take k).filter (notP a b)).length := List.length_map ..
      have l6 : (((ps.take k).filter (notP a b)).map (fun p => p.2.1)).length = ((ps.take k).filter (notP a b)).length := List.length_map ..
      have l7 : (((ps.take k).filter (notP a b)).map (fun p => p.2.2)).length = ((ps.take k).filter (notP a b)).length := List.length_map ..
      have keep : notP a b p = true → okM m g (bd (gR 12 9 m) (fun y1 => bd (gR 12 9 m) (fun y2 => bd (al 22 y2 (nI k)) (fun x3 => bd (as 22 y1 (nI ((ps.take k).filter (notP a b)).length) x3) (fun _ => bd (gR 12 10 m) (fun y4 => bd (gR 12 10 m) (fun y5 => bd (al 22 y5 (nI k)) (fun x6 => bd (as 22 y4 (nI ((ps.take k).filter (notP a b)).length) x6) (fun _ => bd (gR 12 11 m) (fun y7 => bd (gR 12 11 m) (fun y8 => bd (al 22 y8 (nI k)) (fun x9 => bd (as 22 y7 (nI ((ps.take k).filter (notP a b)).length) x9) (fun _ => X9_removes_b39 w m a b (nI ((ps.take k).filter (notP a b)).length + 1) (nI k + 1)))))))))))))) (up567 S B5 B6 B7) Q := by
        intro hn
        rw [if_pos hn] at etk
        have hB5 : ((ps.take k).filter (notP a b)).length < B5.length := by rw [c5.1]; omega
        have hB6 : ((ps.take k).filter (notP a b)).length < B6.length := by rw [c6.1]; omega
        have hB7 : ((ps.take k).filter (notP a b)).length < B7.length := by rw [c7.1]; omega
        refine oM_gR hM (oM_gR hM (oM_al (q := 5) hM rfl g5 (oM_as (q := 5) hM rfl hB5 (oM_gR hM (oM_gR hM (oM_al (q := 6) hM rfl g6 (oM_as (q := 6) hM rfl hB6 (oM_gR hM (oM_gR hM (oM_al (q := 7) hM rfl g7 (oM_as (q := 7) hM rfl hB7 ?_)))))))))))
        rw [nI_1, nI_1]
        have e : okM m g (X9_removes_b39 w m a b (nI (((ps.take k).filter (notP a b)).length + 1)) (nI (k + 1))) (upA (upA (upA (up567 S B5 B6 B7) 5 (B5.set ((ps.take k).filter (notP a b)).length p.1)) 6 (B6.set ((ps.take k).filter (notP a b)).length p.2.1)) 7 (B7.set ((ps.take k).filter (notP a b)).length p.2.2)) Q := by
          rw [up567_up]
          have := ih (k + 1) (B5.set ((ps.take k).filter (notP a b)).length p.1) (B6.set ((ps.take k).filter (notP a b)).length p.2.1) (B7.set ((ps.take k).filter (notP a b)).length p.2.2) (by omega) (by omega) ?_ ?_ ?_
          · rw [etk, List.length_append] at this
            exact this
          · have q := cmpc_step c5 (by rw [l5]; exact hfl) n5
            rw [l5] at q
            rw [etk, List.map_append]
            exact q
          · have q := cmpc_step c6 (by rw [l6]; exact hfl) n6
            rw [l6] at q
            rw [etk, List.map_append]
            exact q
          · have q := cmpc_step c7 (by rw [l7]; exact hfl) n7
            rw [l7] at q
            rw [etk, List.map_append]
            exact q
        exact e
      refine oM_itF (nI_ge c (by omega)) (oM_gR hM (oM_al (q := 5) hM rfl g5 ?_))
      by_cases c1 : p.1 = a
      · refine oM_itF (fun q => q c1) (oM_gR hM (oM_al (q := 6) hM rfl g6 ?_))
        by_cases c2 : p.2.1 = b
        · have hn : notP a b p = false := by
            unfold notP
            simp [c1, c2]
          rw [hn] at etk
          simp only [Bool.false_eq_true, if_false, List.append_nil] at etk
          refine oM_itF (fun q => q c2) ?_
          rw [nI_1]
          have := ih (k + 1) B5 B6 B7 (by omega) (by omega) (by rw [etk]; exact cmpc_skip c5) (by rw [etk]; exact cmpc_skip c6) (by rw [etk]; exact cmpc_skip c7)
          rw [etk] at this
          exact this
        · exact oM_itT c2 (keep (by unfold notP; simp [c2]))
      · exact oM_itT c1 (keep (by unfold notP; simp [c1]))
    · have ek : k = ps.length := by omega
      subst ek
      rw [List.take_length] at c5 c6 c7 hfl ⊢
      refine oM_itT (nI_le (Nat.le_refl _) (by omega)) (oM_pI hM (oM_pu (hq _ ?_ ?_)))
      · have g5 := c5.2.1
        have g6 := c6.2.1
        have g7 := c7.2.1
        rw [List.length_map] at g5 g6 g7
        refine ⟨⟨rfl, by omega⟩, ⟨c5.1.trans s5, c6.1.trans s6, c7.1.trans s7⟩, g5, g6, g7⟩
      · refine ⟨fun j hj => vu_ne (fun e => hj (by rw [e]; decide)), fun q hq => ?_⟩
        show (if q = 5 then _ else if q = 6 then _ else if q = 7 then _ else S.2 q) = _
        rw [if_neg (fun e => hq (by rw [e]; decide)), if_neg (fun e => hq (by rw [e]; decide)), if_neg (fun e => hq (by rw [e]; decide))]
theorem m_removes {a b : Int32} {k : Unit → M α} {Q : α → MS → Prop} (hM : Mk m g) (hR : RepF S fs) (hP : RepP S ps) (hS : SrtF fs) (h0 : fndF a b fs = none → okM m g (k ()) S Q) (h1 : ∀ x S', fndF a b fs = some x → RepF S' (fs.eraseIdx (plF a b fs)) → RepP S' (ps.filter (notP a b)) → S'.1 22 = S.1 22 + 1 → mfr [4, 8, 12, 22] [1, 2, 3, 4, 5, 6, 7] S S' → okM m g (k ()) S' Q) : okM m g (bd (X9_removes m a b) k) S Q := by
  refine oM_bd ?_
  unfold X9_removes
  have hl := hR.1.2.2.2
  refine oM_ck hM (m_fileAt hM hR hS (fun x hx => ?_) (fun hn => oM_itF (by decide) (oM_pu (h0 hn))))
  obtain ⟨q1, q2, q3⟩ := fndF_some hx
  obtain ⟨n1, n2, n3⟩ := rf_n hR q1
  have hp := lt_of_some q1
  refine oM_itT (nI_pos' (by omega)) (oM_gR hM (oM_al (q := 4) hM rfl n3 (oM_ck hM (m_loses hM hR q1 rfl rfl (Nat.le_refl _) (fun S1 r1 f1 => oM_gI hM (oM_pI hM ?_))))))
  unfold losM at r1
  rw [if_pos rfl] at r1
  have hP1 := repP_fr hP f1 (by decide) (by decide) (by decide) (by decide)
  have f2 : mfr [22] [] S1 (upI S1 22 (S1.1 22 + 1)) := mfr_I (by decide)
  have r2 := repF_fr r1 f2 (by decide) (by decide) (by decide) (by decide) (by decide) (by decide)
  have hP2 := repP_fr hP1 f2 (by decide) (by decide) (by decide) (by decide)
  generalize hS2 : upI S1 22 (S1.1 22 + 1) = S2 at *
  have : FU = 1000000 := rfl
  have h41 := hP.1.2
  have hz := m_rem_loop (a := a) (b := b) (Q := fun v S1 => okM m g (k v) S1 Q) hM hP2 (fun S' rp f3 => h1 x S' hx (repF_fr r2 f3 (by decide) (by decide) (by decide) (by decide) (by decide) (by decide)) rp ?_ ?_) FU 0 (S2.2 5) (S2.2 6) (S2.2 7) (by omega) (Nat.zero_le _) ⟨rfl, rfl, fun _ _ => rfl⟩ ⟨rfl, rfl, fun _ _ => rfl⟩ ⟨rfl, rfl, fun _ _ => rfl⟩
  · rw [up567_id] at hz
    exact hz
  · rw [f3.1 22 (by decide), ← hS2]
    show va_up S1.1 22 (S1.1 22 + 1) 22 = _
    rw [vu_eq, f1.1 22 (by decide)]
  · exact mfr_tr (mfr_tr (mfr_mono f1 (by decide) (by decide)) (mfr_mono f2 (by decide) (by decide))) (mfr_mono f3 (by decide) (by decide))
end
