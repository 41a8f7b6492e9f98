/-! the fixed parts, step by step -/
def sB1 (l : List Int32) (V : VC) : VC := (V.1, V.2.1, V.2.2.1, V.2.2.2.1, (V.2.2.2.2.1.1, V.2.2.2.2.1.2.1, V.2.2.2.2.1.2.2.1, l, V.2.2.2.2.1.2.2.2.2), V.2.2.2.2.2)
def sB5 (l : List Int32) (V : VC) : VC := (V.1, V.2.1, V.2.2.1, V.2.2.2.1, (V.2.2.2.2.1.1, V.2.2.2.2.1.2.1, V.2.2.2.2.1.2.2.1, V.2.2.2.2.1.2.2.2.1, l), V.2.2.2.2.2)
def sB3 (l : List Int32) (V : VC) : VC := (V.1, V.2.1, V.2.2.1, V.2.2.2.1, V.2.2.2.2.1, (l, V.2.2.2.2.2.2))
def sB7 (l : List Int32) (V : VC) : VC := (V.1, V.2.1, V.2.2.1, V.2.2.2.1, V.2.2.2.2.1, (V.2.2.2.2.2.1, l, V.2.2.2.2.2.2.2))
def sB19 (l : List Int32) (V : VC) : VC := (V.1, V.2.1, V.2.2.1, V.2.2.2.1, V.2.2.2.2.1, (V.2.2.2.2.2.1, V.2.2.2.2.2.2.1, l))
def sB17 (l : List Int32) (V : VC) : VC := (V.1, V.2.1, (V.2.2.1.1, V.2.2.1.2.1, V.2.2.1.2.2.1, V.2.2.1.2.2.2.1, V.2.2.1.2.2.2.2.1, V.2.2.1.2.2.2.2.2.1, l), V.2.2.2.1, V.2.2.2.2.1, V.2.2.2.2.2)
def si1108 (x : Int32) (V : VC) : VC := (V.1, V.2.1, V.2.2.1, V.2.2.2.1, (x, V.2.2.2.2.1.2.1, V.2.2.2.2.1.2.2.1, V.2.2.2.2.1.2.2.2.1, V.2.2.2.2.1.2.2.2.2), V.2.2.2.2.2)
def si1109 (x : Int32) (V : VC) : VC := (V.1, V.2.1, V.2.2.1, V.2.2.2.1, (V.2.2.2.2.1.1, x, V.2.2.2.2.1.2.2.1, V.2.2.2.2.1.2.2.2.1, V.2.2.2.2.1.2.2.2.2), V.2.2.2.2.2)
def si1110 (x : Int32) (V : VC) : VC := (V.1, V.2.1, V.2.2.1, V.2.2.2.1, (V.2.2.2.2.1.1, V.2.2.2.2.1.2.1, x, V.2.2.2.2.1.2.2.2.1, V.2.2.2.2.1.2.2.2.2), V.2.2.2.2.2)
def si804 (x : Int32) (V : VC) : VC := (V.1, V.2.1, (x, V.2.2.1.2.1, V.2.2.1.2.2.1, V.2.2.1.2.2.2.1, V.2.2.1.2.2.2.2.1, V.2.2.1.2.2.2.2.2.1, V.2.2.1.2.2.2.2.2.2), V.2.2.2.1, V.2.2.2.2.1, V.2.2.2.2.2)
def si805 (x : Int32) (V : VC) : VC := (V.1, V.2.1, (V.2.2.1.1, x, V.2.2.1.2.2.1, V.2.2.1.2.2.2.1, V.2.2.1.2.2.2.2.1, V.2.2.1.2.2.2.2.2.1, V.2.2.1.2.2.2.2.2.2), V.2.2.2.1, V.2.2.2.2.1, V.2.2.2.2.2)
def si806 (x : Int32) (V : VC) : VC := (V.1, V.2.1, (V.2.2.1.1, V.2.2.1.2.1, x, V.2.2.1.2.2.2.1, V.2.2.1.2.2.2.2.1, V.2.2.1.2.2.2.2.2.1, V.2.2.1.2.2.2.2.2.2), V.2.2.2.1, V.2.2.2.2.1, V.2.2.2.2.2)
def si807 (x : Int32) (V : VC) : VC := (V.1, V.2.1, (V.2.2.1.1, V.2.2.1.2.1, V.2.2.1.2.2.1, x, V.2.2.1.2.2.2.2.1, V.2.2.1.2.2.2.2.2.1, V.2.2.1.2.2.2.2.2.2), V.2.2.2.1, V.2.2.2.2.1, V.2.2.2.2.2)
def si808 (x : Int32) (V : VC) : VC := (V.1, V.2.1, (V.2.2.1.1, V.2.2.1.2.1, V.2.2.1.2.2.1, V.2.2.1.2.2.2.1, x, V.2.2.1.2.2.2.2.2.1, V.2.2.1.2.2.2.2.2.2), V.2.2.2.1, V.2.2.2.2.1, V.2.2.2.2.2)
def si809 (x : Int32) (V : VC) : VC := (V.1, V.2.1, (V.2.2.1.1, V.2.2.1.2.1, V.2.2.1.2.2.1, V.2.2.1.2.2.2.1, V.2.2.1.2.2.2.2.1, x, V.2.2.1.2.2.2.2.2.2), V.2.2.2.1, V.2.2.2.2.1, V.2.2.2.2.2)
def si902 (x : Int32) (V : VC) : VC := (V.1, V.2.1, V.2.2.1, (x, V.2.2.2.1.2.1, V.2.2.2.1.2.2.1, V.2.2.2.1.2.2.2.1, V.2.2.2.1.2.2.2.2), V.2.2.2.2.1, V.2.2.2.2.2)
def si903 (x : Int32) (V : VC) : VC := (V.1, V.2.1, V.2.2.1, (V.2.2.2.1.1, x, V.2.2.2.1.2.2.1, V.2.2.2.1.2.2.2.1, V.2.2.2.1.2.2.2.2), V.2.2.2.2.1, V.2.2.2.2.2)
def si904 (x : Int32) (V : VC) : VC := (V.1, V.2.1, V.2.2.1, (V.2.2.2.1.1, V.2.2.2.1.2.1, x, V.2.2.2.1.2.2.2.1, V.2.2.2.1.2.2.2.2), V.2.2.2.2.1, V.2.2.2.2.2)
def si905 (x : Int32) (V : VC) : VC := (V.1, V.2.1, V.2.2.1, (V.2.2.2.1.1, V.2.2.2.1.2.1, V.2.2.2.1.2.2.1, x, V.2.2.2.1.2.2.2.2), V.2.2.2.2.1, V.2.2.2.2.2)
def si906 (x : Int32) (V : VC) : VC := (V.1, V.2.1, V.2.2.1, (V.2.2.2.1.1, V.2.2.2.1.2.1, V.2.2.2.1.2.2.1, V.2.2.2.1.2.2.2.1, x), V.2.2.2.2.1, V.2.2.2.2.2)
def sDd (D : VD) (V : VC) : VC := (D, V.2)
def sRr (R : List AR) (V : VC) : VC := (V.1, R, V.2.2)
section
variable {n : Nat} {g g' : Gh} {α : Type} {Q : α → Gh → Prop}
theorem st_clr1 {k : Unit → M α} (h : CI n g) (hk : ∀ g', Cp n g g' 0 → CV n g' = sB1 [] (CV n g) → (∀ e, e ≠ n + 1 → qB g' e = qB g e) → ok (k ()) g' Q) : ok (bd (X1_clear (n + 1)) k) g Q := by
  refine ok_nz (fun hz => ok_bclr (cs_tape (ci_C h)) ?_)
  obtain ⟨a, b⟩ := cv_wX1 (l := []) h hz
  exact hk _ a b (fun e he => vu_ne he)
theorem st_add1 {v : Int32} {k : Unit → M α} (h : CI n g) (hl : (qB g (n + 1)).length + 1 ≤ 500) (hk : ∀ g', Cp n g g' 0 → CV n g' = sB1 (qB g (n + 1) ++ [b8 v]) (CV n g) → (∀ e, e ≠ n + 1 → qB g' e = qB g e) → ok (k ()) g' Q) : ok (bd (X1_add (n + 1) v) k) g Q := by
  refine ok_nz (fun hz => ok_capB (cs_tape (ci_C h)) (fun _ h16 => ok_badd (cs_tape (ci_C h)) (by omega) ?_))
  obtain ⟨a, b⟩ := cv_wB1 (l := qB g (n + 1) ++ [b8 v]) h hz h16 (by rw [List.length_append]; exact hl)
  exact hk _ a b (fun e he => vu_ne he)
theorem st_two1 {v : Int32} {k : Unit → M α} (h : CI n g) (hl : (qB g (n + 1)).length + 4 ≤ 500) (hk : ∀ g', Cp n g g' 0 → CV n g' = sB1 (qB g (n + 1) ++ be2 v) (CV n g) → (∀ e, e ≠ n + 1 → qB g' e = qB g e) → ok (k ()) g' Q) : ok (bd (X1_addShort (n + 1) v) k) g Q := by
  refine ok_nz (fun hz => ok_capB (cs_tape (ci_C h)) (fun _ h16 => ok_badd2 (cs_tape (ci_C h)) (by omega) ?_))
  obtain ⟨a, b⟩ := cv_wB1 (l := qB g (n + 1) ++ be2 v) h hz h16 (by rw [List.length_append]; show (qB g (n + 1)).length + 2 ≤ 500; omega)
  exact hk _ a b (fun e he => vu_ne he)
theorem st_four1 {v : Int32} {k : Unit → M α} (h : CI n g) (hl : (qB g (n + 1)).length + 4 ≤ 500) (hk : ∀ g', Cp n g g' 0 → CV n g' = sB1 (qB g (n + 1) ++ be4 v) (CV n g) → (∀ e, e ≠ n + 1 → qB g' e = qB g e) → ok (k ()) g' Q) : ok (bd (X1_addNumber (n + 1) v) k) g Q := by
  refine ok_nz (fun hz => ok_capB (cs_tape (ci_C h)) (fun _ h16 => ok_badd4 (cs_tape (ci_C h)) (by omega) ?_))
  obtain ⟨a, b⟩ := cv_wB1 (l := qB g (n + 1) ++ be4 v) h hz h16 (by rw [List.length_append]; show (qB g (n + 1)).length + 4 ≤ 500; omega)
  exact hk _ a b (fun e he => vu_ne he)
theorem st_part1 {c f m : Nat} {x y : Int32} {k : Unit → M α} (h : CI n g) (hc : qk g c = 5) (hck : c ≠ n + 1) (hx : x = nI f) (hy : y = nI m) (hcl : f + m ≤ (qB g c).length) (hl : (qB g (n + 1)).length + m ≤ 500) (hk : ∀ g', Cp n g g' 0 → CV n g' = sB1 (qB g (n + 1) ++ ((qB g c).drop f).take m) (CV n g) → (∀ e, e ≠ n + 1 → qB g' e = qB g e) → ok (k ()) g' Q) : ok (bd (X1_addPart (n + 1) c x y) k) g Q := by
  refine ok_nz (fun hz => ok_capB (cs_tape (ci_C h)) (fun _ h16 => ok_bpart (cs_tape (ci_C h)) hc hck hx hy hcl (by omega) ?_))
  obtain ⟨a, b⟩ := cv_wB1 (l := qB g (n + 1) ++ ((qB g c).drop f).take m) h hz h16 (by rw [List.length_append, List.length_take, List.length_drop]; omega)
  exact hk _ a b (fun e he => vu_ne he)
theorem st_chg1 {v : Int32} {k : Unit → M α} (h : CI n g) (hl : 4 ≤ (qB g (n + 1)).length) (hk : ∀ g', Cp n g g' 0 → CV n g' = sB1 (be4 v ++ (qB g (n + 1)).drop 4) (CV n g) → (∀ e, e ≠ n + 1 → qB g' e = qB g e) → ok (k ()) g' Q) : ok (bd (X1_changeNumber (n + 1) 0 v) k) g Q := by
  refine ok_nz (fun hz => ok_bchg4 (cs_tape (ci_C h)) hl ?_)
  obtain ⟨a, b⟩ := cv_wX1 (l := be4 v ++ (qB g (n + 1)).drop 4) h hz
  exact hk _ a b (fun e he => vu_ne he)
theorem st_clr5 {k : Unit → M α} (h : CI n g) (hk : ∀ g', Cp n g g' 0 → CV n g' = sB5 [] (CV n g) → (∀ e, e ≠ n + 5 → qB g' e = qB g e) → ok (k ()) g' Q) : ok (bd (X1_clear (n + 5)) k) g Q := by
  refine ok_nz (fun hz => ok_bclr (cs_found (ci_C h)) ?_)
  obtain ⟨a, b⟩ := cv_wX5 (l := []) h hz
  exact hk _ a b (fun e he => vu_ne he)
theorem st_add5 {v : Int32} {k : Unit → M α} (h : CI n g) (hl : (qB g (n + 5)).length + 1 ≤ 500) (hk : ∀ g', Cp n g g' 0 → CV n g' = sB5 (qB g (n + 5) ++ [b8 v]) (CV n g) → (∀ e, e ≠ n + 5 → qB g' e = qB g e) → ok (k ()) g' Q) : ok (bd (X1_add (n + 5) v) k) g Q := by
  refine ok_nz (fun hz => ok_capB (cs_found (ci_C h)) (fun _ h16 => ok_badd (cs_found (ci_C h)) (by omega) ?_))
  obtain ⟨a, b⟩ := cv_wB5 (l := qB g (n + 5) ++ [b8 v]) h hz h16 (by rw [List.length_append]; exact hl)
  exact hk _ a b (fun e he => vu_ne he)
theorem st_two5 {v : Int32} {k : Unit → M α} (h : CI n g) (hl : (qB g (n + 5)).length + 4 ≤ 500) (hk : ∀ g', Cp n g g' 0 → CV n g' = sB5 (qB g (n + 5) ++ be2 v) (CV n g) → (∀ e, e ≠ n + 5 → qB g' e = qB g e) → ok (k ()) g' Q) : ok (bd (X1_addShort (n + 5) v) k) g Q := by
  refine ok_nz (fun hz => ok_capB (cs_found (ci_C h)) (fun _ h16 => ok_badd2 (cs_found (ci_C h)) (by omega) ?_))
  obtain ⟨a, b⟩ := cv_wB5 (l := qB g (n + 5) ++ be2 v) h hz h16 (by rw [List.length_append]; show (qB g (n + 5)).length + 2 ≤ 500; omega)
  exact hk _ a b (fun e he => vu_ne he)
theorem st_four5 {v : Int32} {k : Unit → M α} (h : CI n g) (hl : (qB g (n + 5)).length + 4 ≤ 500) (hk : ∀ g', Cp n g g' 0 → CV n g' = sB5 (qB g (n + 5) ++ be4 v) (CV n g) → (∀ e, e ≠ n + 5 → qB g' e = qB g e) → ok (k ()) g' Q) : ok (bd (X1_addNumber (n + 5) v) k) g Q := by
  refine ok_nz (fun hz => ok_capB (cs_found (ci_C h)) (fun _ h16 => ok_badd4 (cs_found (ci_C h)) (by omega) ?_))
  obtain ⟨a, b⟩ := cv_wB5 (l := qB g (n + 5) ++ be4 v) h hz h16 (by rw [List.length_append]; show (qB g (n + 5)).length + 4 ≤ 500; omega)
  exact hk _ a b (fun e he => vu_ne he)
theorem st_part5 {c f m : Nat} {x y : Int32} {k : Unit → M α} (h : CI n g) (hc : qk g c = 5) (hck : c ≠ n + 5) (hx : x = nI f) (hy : y = nI m) (hcl : f + m ≤ (qB g c).length) (hl : (qB g (n + 5)).length + m ≤ 500) (hk : ∀ g', Cp n g g' 0 → CV n g' = sB5 (qB g (n + 5) ++ ((qB g c).drop f).take m) (CV n g) → (∀ e, e ≠ n + 5 → qB g' e = qB g e) → ok (k ()) g' Q) : ok (bd (X1_addPart (n + 5) c x y) k) g Q := by
  refine ok_nz (fun hz => ok_capB (cs_found (ci_C h)) (fun _ h16 => ok_bpart (cs_found (ci_C h)) hc hck hx hy hcl (by omega) ?_))
  obtain ⟨a, b⟩ := cv_wB5 (l := qB g (n + 5) ++ ((qB g c).drop f).take m) h hz h16 (by rw [List.length_append, List.length_take, List.length_drop]; omega)
  exact hk _ a b (fun e he => vu_ne he)
theorem st_chg5 {v : Int32} {k : Unit → M α} (h : CI n g) (hl : 4 ≤ (qB g (n + 5)).length) (hk : ∀ g', Cp n g g' 0 → CV n g' = sB5 (be4 v ++ (qB g (n + 5)).drop 4) (CV n g) → (∀ e, e ≠ n + 5 → qB g' e = qB g e) → ok (k ()) g' Q) : ok (bd (X1_changeNumber (n + 5) 0 v) k) g Q := by
  refine ok_nz (fun hz => ok_bchg4 (cs_found (ci_C h)) hl ?_)
  obtain ⟨a, b⟩ := cv_wX5 (l := be4 v ++ (qB g (n + 5)).drop 4) h hz
  exact hk _ a b (fun e he => vu_ne he)
theorem st_clr3 {k : Unit → M α} (h : CI n g) (hk : ∀ g', Cp n g g' 0 → CV n g' = sB3 [] (CV n g) → (∀ e, e ≠ n + 3 → qB g' e = qB g e) → ok (k ()) g' Q) : ok (bd (X1_clear (n + 3)) k) g Q := by
  refine ok_nz (fun hz => ok_bclr (cs_taken (ci_C h)) ?_)
  obtain ⟨a, b⟩ := cv_wX3 (l := []) h hz
  exact hk _ a b (fun e he => vu_ne he)
theorem st_add3 {v : Int32} {k : Unit → M α} (h : CI n g) (hl : (qB g (n + 3)).length + 1 ≤ 500) (hk : ∀ g', Cp n g g' 0 → CV n g' = sB3 (qB g (n + 3) ++ [b8 v]) (CV n g) → (∀ e, e ≠ n + 3 → qB g' e = qB g e) → ok (k ()) g' Q) : ok (bd (X1_add (n + 3) v) k) g Q := by
  refine ok_nz (fun hz => ok_capB (cs_taken (ci_C h)) (fun _ h16 => ok_badd (cs_taken (ci_C h)) (by omega) ?_))
  obtain ⟨a, b⟩ := cv_wB3 (l := qB g (n + 3) ++ [b8 v]) h hz h16 (by rw [List.length_append]; exact hl)
  exact hk _ a b (fun e he => vu_ne he)
theorem st_two3 {v : Int32} {k : Unit → M α} (h : CI n g) (hl : (qB g (n + 3)).length + 4 ≤ 500) (hk : ∀ g', Cp n g g' 0 → CV n g' = sB3 (qB g (n + 3) ++ be2 v) (CV n g) → (∀ e, e ≠ n + 3 → qB g' e = qB g e) → ok (k ()) g' Q) : ok (bd (X1_addShort (n + 3) v) k) g Q := by
  refine ok_nz (fun hz => ok_capB (cs_taken (ci_C h)) (fun _ h16 => ok_badd2 (cs_taken (ci_C h)) (by omega) ?_))
  obtain ⟨a, b⟩ := cv_wB3 (l := qB g (n + 3) ++ be2 v) h hz h16 (by rw [List.length_append]; show (qB g (n + 3)).length + 2 ≤ 500; omega)
  exact hk _ a b (fun e he => vu_ne he)
theorem st_four3 {v : Int32} {k : Unit → M α} (h : CI n g) (hl : (qB g (n + 3)).length + 4 ≤ 500) (hk : ∀ g', Cp n g g' 0 → CV n g' = sB3 (qB g (n + 3) ++ be4 v) (CV n g) → (∀ e, e ≠ n + 3 → qB g' e = qB g e) → ok (k ()) g' Q) : ok (bd (X1_addNumber (n + 3) v) k) g Q := by
  refine ok_nz (fun hz => ok_capB (cs_taken (ci_C h)) (fun _ h16 => ok_badd4 (cs_taken (ci_C h)) (by omega) ?_))
  obtain ⟨a, b⟩ := cv_wB3 (l := qB g (n + 3) ++ be4 v) h hz h16 (by rw [List.length_append]; show (qB g (n + 3)).length + 4 ≤ 500; omega)
  exact hk _ a b (fun e he => vu_ne he)
theorem st_part3 {c f m : Nat} {x y : Int32} {k : Unit → M α} (h : CI n g) (hc : qk g c = 5) (hck : c ≠ n + 3) (hx : x = nI f) (hy : y = nI m) (hcl : f + m ≤ (qB g c).length) (hl : (qB g (n + 3)).length + m ≤ 500) (hk : ∀ g', Cp n g g' 0 → CV n g' = sB3 (qB g (n + 3) ++ ((qB g c).drop f).take m) (CV n g) → (∀ e, e ≠ n + 3 → qB g' e = qB g e) → ok (k ()) g' Q) : ok (bd (X1_addPart (n + 3) c x y) k) g Q := by
  refine ok_nz (fun hz => ok_capB (cs_taken (ci_C h)) (fun _ h16 => ok_bpart (cs_taken (ci_C h)) hc hck hx hy hcl (by omega) ?_))
  obtain ⟨a, b⟩ := cv_wB3 (l := qB g (n + 3) ++ ((qB g c).drop f).take m) h hz h16 (by rw [List.length_append, List.length_take, List.length_drop]; omega)
  exact hk _ a b (fun e he => vu_ne he)
theorem st_chg3 {v : Int32} {k : Unit → M α} (h : CI n g) (hl : 4 ≤ (qB g (n + 3)).length) (hk : ∀ g', Cp n g g' 0 → CV n g' = sB3 (be4 v ++ (qB g (n + 3)).drop 4) (CV n g) → (∀ e, e ≠ n + 3 → qB g' e = qB g e) → ok (k ()) g' Q) : ok (bd (X1_changeNumber (n + 3) 0 v) k) g Q := by
  refine ok_nz (fun hz => ok_bchg4 (cs_taken (ci_C h)) hl ?_)
  obtain ⟨a, b⟩ := cv_wX3 (l := be4 v ++ (qB g (n + 3)).drop 4) h hz
  exact hk _ a b (fun e he => vu_ne he)
theorem st_clr7 {k : Unit → M α} (h : CI n g) (hk : ∀ g', Cp n g g' 0 → CV n g' = sB7 [] (CV n g) → (∀ e, e ≠ n + 7 → qB g' e = qB g e) → ok (k ()) g' Q) : ok (bd (X1_clear (n + 7)) k) g Q := by
  refine ok_nz (fun hz => ok_bclr (cs_draft (ci_C h)) ?_)
  obtain ⟨a, b⟩ := cv_wX7 (l := []) h hz
  exact hk _ a b (fun e he => vu_ne he)
theorem st_add7 {v : Int32} {k : Unit → M α} (h : CI n g) (hl : (qB g (n + 7)).length + 1 ≤ 500) (hk : ∀ g', Cp n g g' 0 → CV n g' = sB7 (qB g (n + 7) ++ [b8 v]) (CV n g) → (∀ e, e ≠ n + 7 → qB g' e = qB g e) → ok (k ()) g' Q) : ok (bd (X1_add (n + 7) v) k) g Q := by
  refine ok_nz (fun hz => ok_capB (cs_draft (ci_C h)) (fun _ h16 => ok_badd (cs_draft (ci_C h)) (by omega) ?_))
  obtain ⟨a, b⟩ := cv_wB7 (l := qB g (n + 7) ++ [b8 v]) h hz h16 (by rw [List.length_append]; exact hl)
  exact hk _ a b (fun e he => vu_ne he)
theorem st_two7 {v : Int32} {k : Unit → M α} (h : CI n g) (hl : (qB g (n + 7)).length + 4 ≤ 500) (hk : ∀ g', Cp n g g' 0 → CV n g' = sB7 (qB g (n + 7) ++ be2 v) (CV n g) → (∀ e, e ≠ n + 7 → qB g' e = qB g e) → ok (k ()) g' Q) : ok (bd (X1_addShort (n + 7) v) k) g Q := by
  refine ok_nz (fun hz => ok_capB (cs_draft (ci_C h)) (fun _ h16 => ok_badd2 (cs_draft (ci_C h)) (by omega) ?_))
  obtain ⟨a, b⟩ := cv_wB7 (l := qB g (n + 7) ++ be2 v) h hz h16 (by rw [List.length_append]; show (qB g (n + 7)).length + 2 ≤ 500; omega)
  exact hk _ a b (fun e he => vu_ne he)
theorem st_four7 {v : Int32} {k : Unit → M α} (h : CI n g) (hl : (qB g (n + 7)).length + 4 ≤ 500) (hk : ∀ g', Cp n g g' 0 → CV n g' = sB7 (qB g (n + 7) ++ be4 v) (CV n g) → (∀ e, e ≠ n + 7 → qB g' e = qB g e) → ok (k ()) g' Q) : ok (bd (X1_addNumber (n + 7) v) k) g Q := by
  refine ok_nz (fun hz => ok_capB (cs_draft (ci_C h)) (fun _ h16 => ok_badd4 (cs_draft (ci_C h)) (by omega) ?_))
  obtain ⟨a, b⟩ := cv_wB7 (l := qB g (n + 7) ++ be4 v) h hz h16 (by rw [List.length_append]; show (qB g (n + 7)).length + 4 ≤ 500; omega)
  exact hk _ a b (fun e he => vu_ne he)
theorem st_part7 {c f m : Nat} {x y : Int32} {k : Unit → M α} (h : CI n g) (hc : qk g c = 5) (hck : c ≠ n + 7) (hx : x = nI f) (hy : y = nI m) (hcl : f + m ≤ (qB g c).length) (hl : (qB g (n + 7)).length + m ≤ 500) (hk : ∀ g', Cp n g g' 0 → CV n g' = sB7 (qB g (n + 7) ++ ((qB g c).drop f).take m) (CV n g) → (∀ e, e ≠ n + 7 → qB g' e = qB g e) → ok (k ()) g' Q) : ok (bd (X1_addPart (n + 7) c x y) k) g Q := by
  refine ok_nz (fun hz => ok_capB (cs_draft (ci_C h)) (fun _ h16 => ok_bpart (cs_draft (ci_C h)) hc hck hx hy hcl (by omega) ?_))
  obtain ⟨a, b⟩ := cv_wB7 (l := qB g (n + 7) ++ ((qB g c).drop f).take m) h hz h16 (by rw [List.length_append, List.length_take, List.length_drop]; omega)
  exact hk _ a b (fun e he => vu_ne he)
theorem st_chg7 {v : Int32} {k : Unit → M α} (h : CI n g) (hl : 4 ≤ (qB g (n + 7)).length) (hk : ∀ g', Cp n g g' 0 → CV n g' = sB7 (be4 v ++ (qB g (n + 7)).drop 4) (CV n g) → (∀ e, e ≠ n + 7 → qB g' e = qB g e) → ok (k ()) g' Q) : ok (bd (X1_changeNumber (n + 7) 0 v) k) g Q := by
  refine ok_nz (fun hz => ok_bchg4 (cs_draft (ci_C h)) hl ?_)
  obtain ⟨a, b⟩ := cv_wX7 (l := be4 v ++ (qB g (n + 7)).drop 4) h hz
  exact hk _ a b (fun e he => vu_ne he)
theorem st_clr19 {k : Unit → M α} (h : CI n g) (hk : ∀ g', Cp n g g' 0 → CV n g' = sB19 [] (CV n g) → (∀ e, e ≠ n + 19 → qB g' e = qB g e) → ok (k ()) g' Q) : ok (bd (X1_clear (n + 19)) k) g Q := by
  refine ok_nz (fun hz => ok_bclr (cs_mark (ci_C h)) ?_)
  obtain ⟨a, b⟩ := cv_wX19 (l := []) h hz
  exact hk _ a b (fun e he => vu_ne he)
theorem st_add19 {v : Int32} {k : Unit → M α} (h : CI n g) (hl : (qB g (n + 19)).length + 1 ≤ 30000) (hk : ∀ g', Cp n g g' 0 → CV n g' = sB19 (qB g (n + 19) ++ [b8 v]) (CV n g) → (∀ e, e ≠ n + 19 → qB g' e = qB g e) → ok (k ()) g' Q) : ok (bd (X1_add (n + 19) v) k) g Q := by
  refine ok_nz (fun hz => ok_capB (cs_mark (ci_C h)) (fun _ h16 => ok_badd (cs_mark (ci_C h)) hl ?_))
  obtain ⟨a, b⟩ := cv_wB19 (l := qB g (n + 19) ++ [b8 v]) h hz h16
  exact hk _ a b (fun e he => vu_ne he)
theorem st_two19 {v : Int32} {k : Unit → M α} (h : CI n g) (hl : (qB g (n + 19)).length + 4 ≤ 30000) (hk : ∀ g', Cp n g g' 0 → CV n g' = sB19 (qB g (n + 19) ++ be2 v) (CV n g) → (∀ e, e ≠ n + 19 → qB g' e = qB g e) → ok (k ()) g' Q) : ok (bd (X1_addShort (n + 19) v) k) g Q := by
  refine ok_nz (fun hz => ok_capB (cs_mark (ci_C h)) (fun _ h16 => ok_badd2 (cs_mark (ci_C h)) hl ?_))
  obtain ⟨a, b⟩ := cv_wB19 (l := qB g (n + 19) ++ be2 v) h hz h16
  exact hk _ a b (fun e he => vu_ne he)
theorem st_four19 {v : Int32} {k : Unit → M α} (h : CI n g) (hl : (qB g (n + 19)).length + 4 ≤ 30000) (hk : ∀ g', Cp n g g' 0 → CV n g' = sB19 (qB g (n + 19) ++ be4 v) (CV n g) → (∀ e, e ≠ n + 19 → qB g' e = qB g e) → ok (k ()) g' Q) : ok (bd (X1_addNumber (n + 19) v) k) g Q := by
  refine ok_nz (fun hz => ok_capB (cs_mark (ci_C h)) (fun _ h16 => ok_badd4 (cs_mark (ci_C h)) hl ?_))
  obtain ⟨a, b⟩ := cv_wB19 (l := qB g (n + 19) ++ be4 v) h hz h16
  exact hk _ a b (fun e he => vu_ne he)
theorem st_part19 {c f m : Nat} {x y : Int32} {k : Unit → M α} (h : CI n g) (hc : qk g c = 5) (hck : c ≠ n + 19) (hx : x = nI f) (hy : y = nI m) (hcl : f + m ≤ (qB g c).length) (hl : (qB g (n + 19)).length + m ≤ 30000) (hk : ∀ g', Cp n g g' 0 → CV n g' = sB19 (qB g (n + 19) ++ ((qB g c).drop f).take m) (CV n g) → (∀ e, e ≠ n + 19 → qB g' e = qB g e) → ok (k ()) g' Q) : ok (bd (X1_addPart (n + 19) c x y) k) g Q := by
  refine ok_nz (fun hz => ok_capB (cs_mark (ci_C h)) (fun _ h16 => ok_bpart (cs_mark (ci_C h)) hc hck hx hy hcl hl ?_))
  obtain ⟨a, b⟩ := cv_wB19 (l := qB g (n + 19) ++ ((qB g c).drop f).take m) h hz h16
  exact hk _ a b (fun e he => vu_ne he)
theorem st_chg19 {v : Int32} {k : Unit → M α} (h : CI n g) (hl : 4 ≤ (qB g (n + 19)).length) (hk : ∀ g', Cp n g g' 0 → CV n g' = sB19 (be4 v ++ (qB g (n + 19)).drop 4) (CV n g) → (∀ e, e ≠ n + 19 → qB g' e = qB g e) → ok (k ()) g' Q) : ok (bd (X1_changeNumber (n + 19) 0 v) k) g Q := by
  refine ok_nz (fun hz => ok_bchg4 (cs_mark (ci_C h)) hl ?_)
  obtain ⟨a, b⟩ := cv_wX19 (l := be4 v ++ (qB g (n + 19)).drop 4) h hz
  exact hk _ a b (fun e he => vu_ne he)
theorem st_clr17 {k : Unit → M α} (h : CI n g) (hk : ∀ g', Cp n g g' 0 → CV n g' = sB17 [] (CV n g) → (∀ e, e ≠ n + 17 → qB g' e = qB g e) → ok (k ()) g' Q) : ok (bd (X1_clear (n + 17)) k) g Q := by
  refine ok_nz (fun hz => ok_bclr (cs_hint (ci_C h)) ?_)
  obtain ⟨a, b⟩ := cv_wX17 (l := []) h hz
  exact hk _ a b (fun e he => vu_ne he)
theorem st_add17 {v : Int32} {k : Unit → M α} (h : CI n g) (hl : (qB g (n + 17)).length + 1 ≤ 30000) (hk : ∀ g', Cp n g g' 0 → CV n g' = sB17 (qB g (n + 17) ++ [b8 v]) (CV n g) → (∀ e, e ≠ n + 17 → qB g' e = qB g e) → ok (k ()) g' Q) : ok (bd (X1_add (n + 17) v) k) g Q := by
  refine ok_nz (fun hz => ok_capB (cs_hint (ci_C h)) (fun _ h16 => ok_badd (cs_hint (ci_C h)) hl ?_))
  obtain ⟨a, b⟩ := cv_wB17 (l := qB g (n + 17) ++ [b8 v]) h hz h16
  exact hk _ a b (fun e he => vu_ne he)
theorem st_two17 {v : Int32} {k : Unit → M α} (h : CI n g) (hl : (qB g (n + 17)).length + 4 ≤ 30000) (hk : ∀ g', Cp n g g' 0 → CV n g' = sB17 (qB g (n + 17) ++ be2 v) (CV n g) → (∀ e, e ≠ n + 17 → qB g' e = qB g e) → ok (k ()) g' Q) : ok (bd (X1_addShort (n + 17) v) k) g Q := by
  refine ok_nz (fun hz => ok_capB (cs_hint (ci_C h)) (fun _ h16 => ok_badd2 (cs_hint (ci_C h)) hl ?_))
  obtain ⟨a, b⟩ := cv_wB17 (l := qB g (n + 17) ++ be2 v) h hz h16
  exact hk _ a b (fun e he => vu_ne he)
theorem st_four17 {v : Int32} {k : Unit → M α} (h : CI n g) (hl : (qB g (n + 17)).length + 4 ≤ 30000) (hk : ∀ g', Cp n g g' 0 → CV n g' = sB17 (qB g (n + 17) ++ be4 v) (CV n g) → (∀ e, e ≠ n + 17 → qB g' e = qB g e) → ok (k ()) g' Q) : ok (bd (X1_addNumber (n + 17) v) k) g Q := by
  refine ok_nz (fun hz => ok_capB (cs_hint (ci_C h)) (fun _ h16 => ok_badd4 (cs_hint (ci_C h)) hl ?_))
  obtain ⟨a, b⟩ := cv_wB17 (l := qB g (n + 17) ++ be4 v) h hz h16
  exact hk _ a b (fun e he => vu_ne he)
theorem st_part17 {c f m : Nat} {x y : Int32} {k : Unit → M α} (h : CI n g) (hc : qk g c = 5) (hck : c ≠ n + 17) (hx : x = nI f) (hy : y = nI m) (hcl : f + m ≤ (qB g c).length) (hl : (qB g (n + 17)).length + m ≤ 30000) (hk : ∀ g', Cp n g g' 0 → CV n g' = sB17 (qB g (n + 17) ++ ((qB g c).drop f).take m) (CV n g) → (∀ e, e ≠ n + 17 → qB g' e = qB g e) → ok (k ()) g' Q) : ok (bd (X1_addPart (n + 17) c x y) k) g Q := by
  refine ok_nz (fun hz => ok_capB (cs_hint (ci_C h)) (fun _ h16 => ok_bpart (cs_hint (ci_C h)) hc hck hx hy hcl hl ?_))
  obtain ⟨a, b⟩ := cv_wB17 (l := qB g (n + 17) ++ ((qB g c).drop f).take m) h hz h16
  exact hk _ a b (fun e he => vu_ne he)
theorem st_chg17 {v : Int32} {k : Unit → M α} (h : CI n g) (hl : 4 ≤ (qB g (n + 17)).length) (hk : ∀ g', Cp n g g' 0 → CV n g' = sB17 (be4 v ++ (qB g (n + 17)).drop 4) (CV n g) → (∀ e, e ≠ n + 17 → qB g' e = qB g e) → ok (k ()) g' Q) : ok (bd (X1_changeNumber (n + 17) 0 v) k) g Q := by
  refine ok_nz (fun hz => ok_bchg4 (cs_hint (ci_C h)) hl ?_)
  obtain ⟨a, b⟩ := cv_wX17 (l := be4 v ++ (qB g (n + 17)).drop 4) h hz
  exact hk _ a b (fun e he => vu_ne he)
theorem st_i1108 {x : Int32} {k : Unit → M α} (h : CI n g) (hk : ∀ g', Cp n g g' 0 → CV n g' = si1108 x (CV n g) → (∀ e, qB g' e = qB g e) → qL g' = qL g → ok (k ()) g' Q) : ok (bd (pV 11 8 n (.int x)) k) g Q := by
  refine ok_nz (fun hz => ok_pI (cs_x (ci_C h)) ?_)
  obtain ⟨a, b⟩ := cv_i1108 (x := x) h hz
  exact hk _ a b (fun _ => rfl) rfl
theorem st_z1108 {x : Int32} {k : Unit → M α} (h : CI n g) (hx : x = 0 ∨ x = 1) (hk : ∀ g', Cp n g g' 0 → CV n g' = si1108 x (CV n g) → (∀ e, qB g' e = qB g e) → qL g' = qL g → ok (k ()) g' Q) : ok (bd (pZ 11 8 n x) k) g Q := by
  refine ok_nz (fun hz => ok_pZ (cs_x (ci_C h)) hx ?_)
  obtain ⟨a, b⟩ := cv_i1108 (x := x) h hz
  exact hk _ a b (fun _ => rfl) rfl
theorem st_i1109 {x : Int32} {k : Unit → M α} (h : CI n g) (hk : ∀ g', Cp n g g' 0 → CV n g' = si1109 x (CV n g) → (∀ e, qB g' e = qB g e) → qL g' = qL g → ok (k ()) g' Q) : ok (bd (pV 11 9 n (.int x)) k) g Q := by
  refine ok_nz (fun hz => ok_pI (cs_x (ci_C h)) ?_)
  obtain ⟨a, b⟩ := cv_i1109 (x := x) h hz
  exact hk _ a b (fun _ => rfl) rfl
theorem st_i1110 {x : Int32} {k : Unit → M α} (h : CI n g) (hk : ∀ g', Cp n g g' 0 → CV n g' = si1110 x (CV n g) → (∀ e, qB g' e = qB g e) → qL g' = qL g → ok (k ()) g' Q) : ok (bd (pV 11 10 n (.int x)) k) g Q := by
  refine ok_nz (fun hz => ok_pI (cs_x (ci_C h)) ?_)
  obtain ⟨a, b⟩ := cv_i1110 (x := x) h hz
  exact hk _ a b (fun _ => rfl) rfl
theorem st_i804 {x : Int32} {k : Unit → M α} (h : CI n g) (hk : ∀ g', Cp n g g' 0 → CV n g' = si804 x (CV n g) → (∀ e, qB g' e = qB g e) → qL g' = qL g → ok (k ()) g' Q) : ok (bd (pV 8 4 (n + 16) (.int x)) k) g Q := by
  refine ok_nz (fun hz => ok_pI (cs_mg (ci_C h)) ?_)
  obtain ⟨a, b⟩ := cv_i804 (x := x) h hz
  exact hk _ a b (fun _ => rfl) rfl
theorem st_z804 {x : Int32} {k : Unit → M α} (h : CI n g) (hx : x = 0 ∨ x = 1) (hk : ∀ g', Cp n g g' 0 → CV n g' = si804 x (CV n g) → (∀ e, qB g' e = qB g e) → qL g' = qL g → ok (k ()) g' Q) : ok (bd (pZ 8 4 (n + 16) x) k) g Q := by
  refine ok_nz (fun hz => ok_pZ (cs_mg (ci_C h)) hx ?_)
  obtain ⟨a, b⟩ := cv_i804 (x := x) h hz
  exact hk _ a b (fun _ => rfl) rfl
theorem st_i805 {x : Int32} {k : Unit → M α} (h : CI n g) (hk : ∀ g', Cp n g g' 0 → CV n g' = si805 x (CV n g) → (∀ e, qB g' e = qB g e) → qL g' = qL g → ok (k ()) g' Q) : ok (bd (pV 8 5 (n + 16) (.int x)) k) g Q := by
  refine ok_nz (fun hz => ok_pI (cs_mg (ci_C h)) ?_)
  obtain ⟨a, b⟩ := cv_i805 (x := x) h hz
  exact hk _ a b (fun _ => rfl) rfl
theorem st_i806 {x : Int32} {k : Unit → M α} (h : CI n g) (hk : ∀ g', Cp n g g' 0 → CV n g' = si806 x (CV n g) → (∀ e, qB g' e = qB g e) → qL g' = qL g → ok (k ()) g' Q) : ok (bd (pV 8 6 (n + 16) (.int x)) k) g Q := by
  refine ok_nz (fun hz => ok_pI (cs_mg (ci_C h)) ?_)
  obtain ⟨a, b⟩ := cv_i806 (x := x) h hz
  exact hk _ a b (fun _ => rfl) rfl
theorem st_i807 {x : Int32} {k : Unit → M α} (h : CI n g) (hk : ∀ g', Cp n g g' 0 → CV n g' = si807 x (CV n g) → (∀ e, qB g' e = qB g e) → qL g' = qL g → ok (k ()) g' Q) : ok (bd (pV 8 7 (n + 16) (.int x)) k) g Q := by
  refine ok_nz (fun hz => ok_pI (cs_mg (ci_C h)) ?_)
  obtain ⟨a, b⟩ := cv_i807 (x := x) h hz
  exact hk _ a b (fun _ => rfl) rfl
theorem st_i808 {x : Int32} {k : Unit → M α} (h : CI n g) (hk : ∀ g', Cp n g g' 0 → CV n g' = si808 x (CV n g) → (∀ e, qB g' e = qB g e) → qL g' = qL g → ok (k ()) g' Q) : ok (bd (pV 8 8 (n + 16) (.int x)) k) g Q := by
  refine ok_nz (fun hz => ok_pI (cs_mg (ci_C h)) ?_)
  obtain ⟨a, b⟩ := cv_i808 (x := x) h hz
  exact hk _ a b (fun _ => rfl) rfl
theorem st_i809 {x : Int32} {k : Unit → M α} (h : CI n g) (hk : ∀ g', Cp n g g' 0 → CV n g' = si809 x (CV n g) → (∀ e, qB g' e = qB g e) → qL g' = qL g → ok (k ()) g' Q) : ok (bd (pV 8 9 (n + 16) (.int x)) k) g Q := by
  refine ok_nz (fun hz => ok_pI (cs_mg (ci_C h)) ?_)
  obtain ⟨a, b⟩ := cv_i809 (x := x) h hz
  exact hk _ a b (fun _ => rfl) rfl
theorem st_i902 {x : Int32} {k : Unit → M α} (h : CI n g) (hk : ∀ g', Cp n g g' 0 → CV n g' = si902 x (CV n g) → (∀ e, qB g' e = qB g e) → qL g' = qL g → ok (k ()) g' Q) : ok (bd (pV 9 2 (n + 21) (.int x)) k) g Q := by
  refine ok_nz (fun hz => ok_pI (cs_op (ci_C h)) ?_)
  obtain ⟨a, b⟩ := cv_i902 (x := x) h hz
  exact hk _ a b (fun _ => rfl) rfl
theorem st_i903 {x : Int32} {k : Unit → M α} (h : CI n g) (hk : ∀ g', Cp n g g' 0 → CV n g' = si903 x (CV n g) → (∀ e, qB g' e = qB g e) → qL g' = qL g → ok (k ()) g' Q) : ok (bd (pV 9 3 (n + 21) (.int x)) k) g Q := by
  refine ok_nz (fun hz => ok_pI (cs_op (ci_C h)) ?_)
  obtain ⟨a, b⟩ := cv_i903 (x := x) h hz
  exact hk _ a b (fun _ => rfl) rfl
theorem st_i904 {x : Int32} {k : Unit → M α} (h : CI n g) (hk : ∀ g', Cp n g g' 0 → CV n g' = si904 x (CV n g) → (∀ e, qB g' e = qB g e) → qL g' = qL g → ok (k ()) g' Q) : ok (bd (pV 9 4 (n + 21) (.int x)) k) g Q := by
  refine ok_nz (fun hz => ok_pI (cs_op (ci_C h)) ?_)
  obtain ⟨a, b⟩ := cv_i904 (x := x) h hz
  exact hk _ a b (fun _ => rfl) rfl
theorem st_i905 {x : Int32} {k : Unit → M α} (h : CI n g) (hk : ∀ g', Cp n g g' 0 → CV n g' = si905 x (CV n g) → (∀ e, qB g' e = qB g e) → qL g' = qL g → ok (k ()) g' Q) : ok (bd (pV 9 5 (n + 21) (.int x)) k) g Q := by
  refine ok_nz (fun hz => ok_pI (cs_op (ci_C h)) ?_)
  obtain ⟨a, b⟩ := cv_i905 (x := x) h hz
  exact hk _ a b (fun _ => rfl) rfl
theorem st_i906 {x : Int32} {k : Unit → M α} (h : CI n g) (hk : ∀ g', Cp n g g' 0 → CV n g' = si906 x (CV n g) → (∀ e, qB g' e = qB g e) → qL g' = qL g → ok (k ()) g' Q) : ok (bd (pV 9 6 (n + 21) (.int x)) k) g Q := by
  refine ok_nz (fun hz => ok_pI (cs_op (ci_C h)) ?_)
  obtain ⟨a, b⟩ := cv_i906 (x := x) h hz
  exact hk _ a b (fun _ => rfl) rfl
end
