/-! the hint and the mark: steps that tell what else is as it was -/
def smK (n k : Nat) (g g' : Gh) : Prop := qi g' = qi g ∧ qL g' = qL g ∧ ∀ e, e ≠ n + k → qB g' e = qB g e
theorem smK_tr {n k : Nat} {g g1 g2 : Gh} (h : smK n k g g1) (h2 : smK n k g1 g2) : smK n k g g2 := ⟨h2.1.trans h.1, h2.2.1.trans h.2.1, fun e he => (h2.2.2 e he).trans (h.2.2 e he)⟩
section
variable {n : Nat} {g g' : Gh} {α : Type} {Q : α → Gh → Prop}
theorem sq_clr17 {k : Unit → M α} (h : CI n g) (hk : ∀ g', Cp n g g' 0 → CV n g' = sB17 [] (CV n g) → smK n 17 g g' → ok (k ()) g' Q) : ok (bd (X1_clear (n + 17)) k) g Q := by
  refine ok_nz (fun hz => ok_bclr (cs_hint (ci_C h)) ?_)
  obtain ⟨a, b⟩ := cv_wX17 (l := []) h hz
  exact hk _ a b ⟨rfl, rfl, fun e he => vu_ne he⟩
theorem sq_two17 {v : Int32} {k : Unit → M α} (h : CI n g) (hl : (qB g (n + 17)).length + 4 ≤ 30000) (hk : ∀ g', Cp n g g' 0 → CV n g' = sB17 (qB g (n + 17) ++ be2 v) (CV n g) → smK n 17 g g' → ok (k ()) g' Q) : ok (bd (X1_addShort (n + 17) v) k) g Q := by
  refine ok_nz (fun hz => ok_capB (cs_hint (ci_C h)) (fun _ h16 => ok_badd2 (cs_hint (ci_C h)) hl ?_))
  obtain ⟨a, b⟩ := cv_wB17 (l := qB g (n + 17) ++ be2 v) h hz h16
  exact hk _ a b ⟨rfl, rfl, fun e he => vu_ne he⟩
theorem sq_four17 {v : Int32} {k : Unit → M α} (h : CI n g) (hl : (qB g (n + 17)).length + 4 ≤ 30000) (hk : ∀ g', Cp n g g' 0 → CV n g' = sB17 (qB g (n + 17) ++ be4 v) (CV n g) → smK n 17 g g' → ok (k ()) g' Q) : ok (bd (X1_addNumber (n + 17) v) k) g Q := by
  refine ok_nz (fun hz => ok_capB (cs_hint (ci_C h)) (fun _ h16 => ok_badd4 (cs_hint (ci_C h)) hl ?_))
  obtain ⟨a, b⟩ := cv_wB17 (l := qB g (n + 17) ++ be4 v) h hz h16
  exact hk _ a b ⟨rfl, rfl, fun e he => vu_ne he⟩
theorem sq_part17 {c f m : Nat} {x y : Int32} {k : Unit → M α} (h : CI n g) (hc : qk g c = 5) (hck : c ≠ n + 17) (hx : x = nI f) (hy : y = nI m) (hcl : f + m ≤ (qB g c).length) (hl : (qB g (n + 17)).length + m ≤ 30000) (hk : ∀ g', Cp n g g' 0 → CV n g' = sB17 (qB g (n + 17) ++ ((qB g c).drop f).take m) (CV n g) → smK n 17 g g' → ok (k ()) g' Q) : ok (bd (X1_addPart (n + 17) c x y) k) g Q := by
  refine ok_nz (fun hz => ok_capB (cs_hint (ci_C h)) (fun _ h16 => ok_bpart (cs_hint (ci_C h)) hc hck hx hy hcl hl ?_))
  obtain ⟨a, b⟩ := cv_wB17 (l := qB g (n + 17) ++ ((qB g c).drop f).take m) h hz h16
  exact hk _ a b ⟨rfl, rfl, fun e he => vu_ne he⟩
theorem sq_clr19 {k : Unit → M α} (h : CI n g) (hk : ∀ g', Cp n g g' 0 → CV n g' = sB19 [] (CV n g) → smK n 19 g g' → ok (k ()) g' Q) : ok (bd (X1_clear (n + 19)) k) g Q := by
  refine ok_nz (fun hz => ok_bclr (cs_mark (ci_C h)) ?_)
  obtain ⟨a, b⟩ := cv_wX19 (l := []) h hz
  exact hk _ a b ⟨rfl, rfl, fun e he => vu_ne he⟩
theorem sq_two19 {v : Int32} {k : Unit → M α} (h : CI n g) (hl : (qB g (n + 19)).length + 4 ≤ 30000) (hk : ∀ g', Cp n g g' 0 → CV n g' = sB19 (qB g (n + 19) ++ be2 v) (CV n g) → smK n 19 g g' → ok (k ()) g' Q) : ok (bd (X1_addShort (n + 19) v) k) g Q := by
  refine ok_nz (fun hz => ok_capB (cs_mark (ci_C h)) (fun _ h16 => ok_badd2 (cs_mark (ci_C h)) hl ?_))
  obtain ⟨a, b⟩ := cv_wB19 (l := qB g (n + 19) ++ be2 v) h hz h16
  exact hk _ a b ⟨rfl, rfl, fun e he => vu_ne he⟩
theorem sq_four19 {v : Int32} {k : Unit → M α} (h : CI n g) (hl : (qB g (n + 19)).length + 4 ≤ 30000) (hk : ∀ g', Cp n g g' 0 → CV n g' = sB19 (qB g (n + 19) ++ be4 v) (CV n g) → smK n 19 g g' → ok (k ()) g' Q) : ok (bd (X1_addNumber (n + 19) v) k) g Q := by
  refine ok_nz (fun hz => ok_capB (cs_mark (ci_C h)) (fun _ h16 => ok_badd4 (cs_mark (ci_C h)) hl ?_))
  obtain ⟨a, b⟩ := cv_wB19 (l := qB g (n + 19) ++ be4 v) h hz h16
  exact hk _ a b ⟨rfl, rfl, fun e he => vu_ne he⟩
theorem sq_part19 {c f m : Nat} {x y : Int32} {k : Unit → M α} (h : CI n g) (hc : qk g c = 5) (hck : c ≠ n + 19) (hx : x = nI f) (hy : y = nI m) (hcl : f + m ≤ (qB g c).length) (hl : (qB g (n + 19)).length + m ≤ 30000) (hk : ∀ g', Cp n g g' 0 → CV n g' = sB19 (qB g (n + 19) ++ ((qB g c).drop f).take m) (CV n g) → smK n 19 g g' → ok (k ()) g' Q) : ok (bd (X1_addPart (n + 19) c x y) k) g Q := by
  refine ok_nz (fun hz => ok_capB (cs_mark (ci_C h)) (fun _ h16 => ok_bpart (cs_mark (ci_C h)) hc hck hx hy hcl hl ?_))
  obtain ⟨a, b⟩ := cv_wB19 (l := qB g (n + 19) ++ ((qB g c).drop f).take m) h hz h16
  exact hk _ a b ⟨rfl, rfl, fun e he => vu_ne he⟩
theorem sq_chg17 {v : Int32} {k : Unit → M α} (h : CI n g) (hl : 4 ≤ (qB g (n + 17)).length) (hk : ∀ g', Cp n g g' 0 → CV n g' = sB17 (be4 v ++ (qB g (n + 17)).drop 4) (CV n g) → smK n 17 g g' → ok (k ()) g' Q) : ok (bd (X1_changeNumber (n + 17) 0 v) k) g Q := by
  refine ok_nz (fun hz => ok_bchg4 (cs_hint (ci_C h)) hl ?_)
  obtain ⟨a, b⟩ := cv_wX17 (l := be4 v ++ (qB g (n + 17)).drop 4) h hz
  exact hk _ a b ⟨rfl, rfl, fun e he => vu_ne he⟩
theorem sq_i1108 {x : Int32} {k : Unit → M α} (h : CI n g) (hk : ∀ g', Cp n g g' 0 → CV n g' = si1108 x (CV n g) → (∀ e, qB g' e = qB g e) → qL g' = qL g → (∀ i a, a ≠ n → qi g' i a = qi g i a) → ok (k ()) g' Q) : ok (bd (pV 11 8 n (.int x)) k) g Q := by
  refine ok_nz (fun hz => ok_pI (cs_x (ci_C h)) ?_)
  obtain ⟨a, b⟩ := cv_i1108 (x := x) h hz
  exact hk _ a b (fun _ => rfl) rfl (fun i a ha => u2_ne (fun q => ha q.2))
theorem sq_i1109 {x : Int32} {k : Unit → M α} (h : CI n g) (hk : ∀ g', Cp n g g' 0 → CV n g' = si1109 x (CV n g) → (∀ e, qB g' e = qB g e) → qL g' = qL g → (∀ i a, a ≠ n → qi g' i a = qi g i a) → ok (k ()) g' Q) : ok (bd (pV 11 9 n (.int x)) k) g Q := by
  refine ok_nz (fun hz => ok_pI (cs_x (ci_C h)) ?_)
  obtain ⟨a, b⟩ := cv_i1109 (x := x) h hz
  exact hk _ a b (fun _ => rfl) rfl (fun i a ha => u2_ne (fun q => ha q.2))
theorem sq_i1110 {x : Int32} {k : Unit → M α} (h : CI n g) (hk : ∀ g', Cp n g g' 0 → CV n g' = si1110 x (CV n g) → (∀ e, qB g' e = qB g e) → qL g' = qL g → (∀ i a, a ≠ n → qi g' i a = qi g i a) → ok (k ()) g' Q) : ok (bd (pV 11 10 n (.int x)) k) g Q := by
  refine ok_nz (fun hz => ok_pI (cs_x (ci_C h)) ?_)
  obtain ⟨a, b⟩ := cv_i1110 (x := x) h hz
  exact hk _ a b (fun _ => rfl) rfl (fun i a ha => u2_ne (fun q => ha q.2))
theorem sq_i804 {x : Int32} {k : Unit → M α} (h : CI n g) (hk : ∀ g', Cp n g g' 0 → CV n g' = si804 x (CV n g) → (∀ e, qB g' e = qB g e) → qL g' = qL g → (∀ i a, a ≠ (n + 16) → qi g' i a = qi g i a) → ok (k ()) g' Q) : ok (bd (pV 8 4 (n + 16) (.int x)) k) g Q := by
  refine ok_nz (fun hz => ok_pI (cs_mg (ci_C h)) ?_)
  obtain ⟨a, b⟩ := cv_i804 (x := x) h hz
  exact hk _ a b (fun _ => rfl) rfl (fun i a ha => u2_ne (fun q => ha q.2))
theorem sq_i805 {x : Int32} {k : Unit → M α} (h : CI n g) (hk : ∀ g', Cp n g g' 0 → CV n g' = si805 x (CV n g) → (∀ e, qB g' e = qB g e) → qL g' = qL g → (∀ i a, a ≠ (n + 16) → qi g' i a = qi g i a) → ok (k ()) g' Q) : ok (bd (pV 8 5 (n + 16) (.int x)) k) g Q := by
  refine ok_nz (fun hz => ok_pI (cs_mg (ci_C h)) ?_)
  obtain ⟨a, b⟩ := cv_i805 (x := x) h hz
  exact hk _ a b (fun _ => rfl) rfl (fun i a ha => u2_ne (fun q => ha q.2))
theorem sq_i806 {x : Int32} {k : Unit → M α} (h : CI n g) (hk : ∀ g', Cp n g g' 0 → CV n g' = si806 x (CV n g) → (∀ e, qB g' e = qB g e) → qL g' = qL g → (∀ i a, a ≠ (n + 16) → qi g' i a = qi g i a) → ok (k ()) g' Q) : ok (bd (pV 8 6 (n + 16) (.int x)) k) g Q := by
  refine ok_nz (fun hz => ok_pI (cs_mg (ci_C h)) ?_)
  obtain ⟨a, b⟩ := cv_i806 (x := x) h hz
  exact hk _ a b (fun _ => rfl) rfl (fun i a ha => u2_ne (fun q => ha q.2))
theorem sq_i807 {x : Int32} {k : Unit → M α} (h : CI n g) (hk : ∀ g', Cp n g g' 0 → CV n g' = si807 x (CV n g) → (∀ e, qB g' e = qB g e) → qL g' = qL g → (∀ i a, a ≠ (n + 16) → qi g' i a = qi g i a) → ok (k ()) g' Q) : ok (bd (pV 8 7 (n + 16) (.int x)) k) g Q := by
  refine ok_nz (fun hz => ok_pI (cs_mg (ci_C h)) ?_)
  obtain ⟨a, b⟩ := cv_i807 (x := x) h hz
  exact hk _ a b (fun _ => rfl) rfl (fun i a ha => u2_ne (fun q => ha q.2))
theorem sq_i808 {x : Int32} {k : Unit → M α} (h : CI n g) (hk : ∀ g', Cp n g g' 0 → CV n g' = si808 x (CV n g) → (∀ e, qB g' e = qB g e) → qL g' = qL g → (∀ i a, a ≠ (n + 16) → qi g' i a = qi g i a) → ok (k ()) g' Q) : ok (bd (pV 8 8 (n + 16) (.int x)) k) g Q := by
  refine ok_nz (fun hz => ok_pI (cs_mg (ci_C h)) ?_)
  obtain ⟨a, b⟩ := cv_i808 (x := x) h hz
  exact hk _ a b (fun _ => rfl) rfl (fun i a ha => u2_ne (fun q => ha q.2))
theorem sq_i809 {x : Int32} {k : Unit → M α} (h : CI n g) (hk : ∀ g', Cp n g g' 0 → CV n g' = si809 x (CV n g) → (∀ e, qB g' e = qB g e) → qL g' = qL g → (∀ i a, a ≠ (n + 16) → qi g' i a = qi g i a) → ok (k ()) g' Q) : ok (bd (pV 8 9 (n + 16) (.int x)) k) g Q := by
  refine ok_nz (fun hz => ok_pI (cs_mg (ci_C h)) ?_)
  obtain ⟨a, b⟩ := cv_i809 (x := x) h hz
  exact hk _ a b (fun _ => rfl) rfl (fun i a ha => u2_ne (fun q => ha q.2))
theorem sq_i902 {x : Int32} {k : Unit → M α} (h : CI n g) (hk : ∀ g', Cp n g g' 0 → CV n g' = si902 x (CV n g) → (∀ e, qB g' e = qB g e) → qL g' = qL g → (∀ i a, a ≠ (n + 21) → qi g' i a = qi g i a) → ok (k ()) g' Q) : ok (bd (pV 9 2 (n + 21) (.int x)) k) g Q := by
  refine ok_nz (fun hz => ok_pI (cs_op (ci_C h)) ?_)
  obtain ⟨a, b⟩ := cv_i902 (x := x) h hz
  exact hk _ a b (fun _ => rfl) rfl (fun i a ha => u2_ne (fun q => ha q.2))
theorem sq_i903 {x : Int32} {k : Unit → M α} (h : CI n g) (hk : ∀ g', Cp n g g' 0 → CV n g' = si903 x (CV n g) → (∀ e, qB g' e = qB g e) → qL g' = qL g → (∀ i a, a ≠ (n + 21) → qi g' i a = qi g i a) → ok (k ()) g' Q) : ok (bd (pV 9 3 (n + 21) (.int x)) k) g Q := by
  refine ok_nz (fun hz => ok_pI (cs_op (ci_C h)) ?_)
  obtain ⟨a, b⟩ := cv_i903 (x := x) h hz
  exact hk _ a b (fun _ => rfl) rfl (fun i a ha => u2_ne (fun q => ha q.2))
theorem sq_i904 {x : Int32} {k : Unit → M α} (h : CI n g) (hk : ∀ g', Cp n g g' 0 → CV n g' = si904 x (CV n g) → (∀ e, qB g' e = qB g e) → qL g' = qL g → (∀ i a, a ≠ (n + 21) → qi g' i a = qi g i a) → ok (k ()) g' Q) : ok (bd (pV 9 4 (n + 21) (.int x)) k) g Q := by
  refine ok_nz (fun hz => ok_pI (cs_op (ci_C h)) ?_)
  obtain ⟨a, b⟩ := cv_i904 (x := x) h hz
  exact hk _ a b (fun _ => rfl) rfl (fun i a ha => u2_ne (fun q => ha q.2))
theorem sq_i905 {x : Int32} {k : Unit → M α} (h : CI n g) (hk : ∀ g', Cp n g g' 0 → CV n g' = si905 x (CV n g) → (∀ e, qB g' e = qB g e) → qL g' = qL g → (∀ i a, a ≠ (n + 21) → qi g' i a = qi g i a) → ok (k ()) g' Q) : ok (bd (pV 9 5 (n + 21) (.int x)) k) g Q := by
  refine ok_nz (fun hz => ok_pI (cs_op (ci_C h)) ?_)
  obtain ⟨a, b⟩ := cv_i905 (x := x) h hz
  exact hk _ a b (fun _ => rfl) rfl (fun i a ha => u2_ne (fun q => ha q.2))
theorem sq_i906 {x : Int32} {k : Unit → M α} (h : CI n g) (hk : ∀ g', Cp n g g' 0 → CV n g' = si906 x (CV n g) → (∀ e, qB g' e = qB g e) → qL g' = qL g → (∀ i a, a ≠ (n + 21) → qi g' i a = qi g i a) → ok (k ()) g' Q) : ok (bd (pV 9 6 (n + 21) (.int x)) k) g Q := by
  refine ok_nz (fun hz => ok_pI (cs_op (ci_C h)) ?_)
  obtain ⟨a, b⟩ := cv_i906 (x := x) h hz
  exact hk _ a b (fun _ => rfl) rfl (fun i a ha => u2_ne (fun q => ha q.2))
end
