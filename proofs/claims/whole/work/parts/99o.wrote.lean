/-! class and reference: a record is written -/
theorem filt_sub {β : Type} {p q : β → Bool} : ∀ (l : List β), (∀ x, x ∈ l → p x = true → q x = true) → (l.filter p).Sublist (l.filter q)
  | [], _ => List.Sublist.refl _
  | x :: l, h => by
    have ih := filt_sub l (fun y hy => h y (List.mem_cons_of_mem _ hy))
    rw [List.filter_cons, List.filter_cons]
    cases c : p x with
    | true =>
      rw [if_pos rfl, if_pos (h x List.mem_cons_self c)]
      exact List.Sublist.cons_cons _ ih
    | false =>
      rw [if_neg (by decide)]
      cases d : q x with
      | true =>
        rw [if_pos rfl]
        exact List.Sublist.cons _ ih
      | false =>
        rw [if_neg (by decide)]
        exact ih
theorem pk_none (fm : Nat) (l : List AR) : pk fm l none = pk fm l (some (fm + 1)) := by
  cases l with
  | nil => rfl
  | cons r l =>
    show 8 + (rcn r + 14 + r.1.length) + pk fm l (some (rcn r)) = if fm + 1 + rcn r ≤ fm then (rcn r + 14 + r.1.length) + pk fm l (some (fm + 1 + rcn r)) else 8 + (rcn r + 14 + r.1.length) + pk fm l (some (rcn r))
    rw [if_neg (by omega)]
theorem pk_cons (fm : Nat) (r : AR) (l : List AR) (s : Nat) : pk fm (r :: l) (some s) = if s + rcn r ≤ fm then (rcn r + 14 + r.1.length) + pk fm l (some (s + rcn r)) else 8 + (rcn r + 14 + r.1.length) + pk fm l (some (rcn r)) := rfl
theorem pk_ab (fm : Nat) : ∀ (l l' : List AR), l'.Sublist l → (∀ s s', s' ≤ s → pk fm l' (some s') ≤ pk fm l (some s)) ∧ ∀ s s', pk fm l' (some s') ≤ pk fm l (some s) + 8
  | _, _, .slnil => ⟨fun _ _ _ => Nat.le_refl _, fun _ _ => Nat.zero_le _⟩
  | r :: l, l', .cons _ h => by
    obtain ⟨hA, hB⟩ := pk_ab fm l l' h
    refine ⟨fun s s' hs => ?_, fun s s' => ?_⟩
    · rw [pk_cons]
      split
      · have := hA (s + rcn r) s' (by omega)
        omega
      · have := hB (rcn r) s'
        omega
    · rw [pk_cons]
      split
      · have := hB (s + rcn r) s'
        omega
      · have := hB (rcn r) s'
        omega
  | r :: l, _ :: l', .cons₂ _ h => by
    obtain ⟨hA, hB⟩ := pk_ab fm l l' h
    refine ⟨fun s s' hs => ?_, fun s s' => ?_⟩
    · rw [pk_cons, pk_cons]
      by_cases c : s + rcn r ≤ fm
      · rw [if_pos c, if_pos (by omega)]
        have := hA (s + rcn r) (s' + rcn r) (by omega)
        omega
      · rw [if_neg c]
        split
        · have := hB (rcn r) (s' + rcn r)
          omega
        · have := hA (rcn r) (rcn r) (Nat.le_refl _)
          omega
    · rw [pk_cons, pk_cons]
      by_cases c : s' + rcn r ≤ fm
      · rw [if_pos c]
        split
        · have := hB (s + rcn r) (s' + rcn r)
          omega
        · have := hB (rcn r) (s' + rcn r)
          omega
      · rw [if_neg c]
        split
        · have := hA (s + rcn r) (rcn r) (by omega)
          omega
        · have := hA (rcn r) (rcn r) (Nat.le_refl _)
          omega
theorem pkk_sub {fm : Nat} {l l' : List AR} (h : l'.Sublist l) (lv : Option Nat) : pk fm l' lv ≤ pk fm l lv := by
  cases lv with
  | none =>
    rw [pk_none, pk_none]
    exact (pk_ab fm l l' h).1 _ _ (Nat.le_refl _)
  | some s => exact (pk_ab fm l l' h).1 _ _ (Nat.le_refl _)
theorem tot_8 : ∀ (fs : List AF), (∀ f, f ∈ fs → 8 ≤ f.2.2.1.length) → 8 * fs.length ≤ totF fs
  | [], _ => Nat.le_refl _
  | f :: fs, h => by
    have h1 := h f List.mem_cons_self
    have h2 := tot_8 fs (fun x hx => h x (List.mem_cons_of_mem _ hx))
    show 8 * (fs.length + 1) ≤ f.2.2.1.length + totF fs
    omega
theorem dby_app2 (li : Int32) : ∀ (a b : List AF), dby li (a ++ b) = dby li a + dby li b
  | [], b => (Nat.zero_add _).symm
  | f :: a, b => by
    show _ + dby li (a ++ b) = _ + dby li a + dby li b
    rw [dby_app2 li a b]
    omega
theorem inpL_app2 (li : Int32) (a b : List AF) : inpL li (a ++ b) = inpL li a ++ inpL li b := by
  unfold inpL dNum
  rw [List.filter_append, List.filter_append, List.map_append]
/-- the files, around the one that is written to -/
theorem app_split {a b : Int32} {part : List Int32} {fs : List AF} {sv : List Nat} : ∃ X Y x, (appF a b part fs sv).1 = X ++ x :: Y ∧ x.1 = a ∧ x.2.1 = b ∧ ((∃ f, fndF a b fs = some f ∧ fs = X ++ f :: Y ∧ x = upF part f) ∨ (fndF a b fs = none ∧ fs = X ++ Y ∧ ∃ c, x = upF part (a, b, [], c, 0))) := by
  unfold appF
  cases h : (fs[plF a b fs]?).filter (isF a b) with
  | some f =>
    have hf : fndF a b fs = some f := h
    obtain ⟨q1, q2, q3⟩ := fndF_some hf
    refine ⟨fs.take (plF a b fs), fs.drop (plF a b fs + 1), upF part f, set_split q1, q2, q3, Or.inl ⟨f, hf, ?_, rfl⟩⟩
    rw [← drop_cons q1, List.take_append_drop]
  | none =>
    exact ⟨fs.take (plF a b fs), fs.drop (plF a b fs), _, rfl, rfl, rfl, Or.inr ⟨h, (List.take_append_drop _ _).symm, _, rfl⟩⟩
theorem inpL_app {a b : Int32} {part : List Int32} {fs : List AF} {sv : List Nat} {li : Int32} (h : ¬ b = 0 ∨ ¬ a < li) : inpL li (appF a b part fs sv).1 = inpL li fs := by
  obtain ⟨X, Y, x, e, x1, x2, hc⟩ := app_split (a := a) (b := b) (part := part) (fs := fs) (sv := sv)
  have z : inpL li (x :: Y) = inpL li Y := by
    rw [inpL_cons, if_neg (by rw [x1, x2]; rintro ⟨q1, q2⟩; exact h.elim (fun z => z q1) (fun z => z q2))]
    rfl
  rw [e, inpL_app2, z]
  rcases hc with ⟨f, f1, f2, f3⟩ | ⟨f1, f2, _⟩
  · obtain ⟨_, e1, e2⟩ := fnd_mem f1
    rw [f2, inpL_app2]
    congr 1
    rw [inpL_cons, if_neg (by rw [e1, e2]; rintro ⟨q1, q2⟩; exact h.elim (fun z => z q1) (fun z => z q2))]
    rfl
  · rw [f2, inpL_app2]
theorem dby_app {a b : Int32} {part : List Int32} {fs : List AF} {sv : List Nat} {li : Int32} : dby li (appF a b part fs sv).1 = dby li fs + (if b = 0 ∧ ¬ a < li then part.length else 0) := by
  obtain ⟨X, Y, x, e, x1, x2, hc⟩ := app_split (a := a) (b := b) (part := part) (fs := fs) (sv := sv)
  rw [e, dby_app2]
  rcases hc with ⟨f, f1, f2, f3⟩ | ⟨f1, f2, c, f3⟩
  · obtain ⟨_, e1, e2⟩ := fnd_mem f1
    rw [f2, dby_app2]
    show _ + ((if x.2.1 = 0 ∧ ¬ x.1 < li then x.2.2.1.length else 0) + dby li Y) = _ + ((if f.2.1 = 0 ∧ ¬ f.1 < li then f.2.2.1.length else 0) + dby li Y) + _
    rw [x1, x2, e1, e2, f3]
    by_cases q : b = 0 ∧ ¬ a < li
    · rw [if_pos q, if_pos q, if_pos q]
      show _ + ((f.2.2.1 ++ part).length + _) = _
      rw [List.length_append]
      omega
    · rw [if_neg q, if_neg q, if_neg q]
      omega
  · rw [f2, dby_app2]
    show _ + ((if x.2.1 = 0 ∧ ¬ x.1 < li then x.2.2.1.length else 0) + dby li Y) = _
    rw [x1, x2, f3]
    by_cases q : b = 0 ∧ ¬ a < li
    · rw [if_pos q, if_pos q]
      show _ + (([] ++ part).length + _) = _
      rw [List.nil_append]
      omega
    · rw [if_neg q, if_neg q]
      omega
theorem fnd_uniq {fs : List AF} {x : AF} (hS : SrtF fs) (h : x ∈ fs) : fndF x.1 x.2.1 fs = some x := by
  obtain ⟨i, hi⟩ := List.mem_iff_getElem?.mp h
  exact (fndF_at hS hi).1
theorem fnd_app_ne {a b c d : Int32} {part : List Int32} {fs : List AF} {sv : List Nat} (hS : SrtF fs) (h : ¬ (c = a ∧ d = b)) : fndF c d (appF a b part fs sv).1 = fndF c d fs := by
  obtain ⟨x, x1, x2, x3, x4, x5⟩ := app_has (a := a) (b := b) (part := part) (sv := sv) hS
  cases hf : fndF c d fs with
  | some f =>
    obtain ⟨f1, f2, f3⟩ := fnd_mem hf
    have := fnd_uniq x3 (mem_app (a := a) (b := b) (part := part) (sv := sv) f1 (by rw [f2, f3]; exact h))
    rw [f2, f3] at this
    exact this
  | none =>
    have hno := (fnd_none (a := c) (b := d) hS).mp (by rw [hf]; rfl)
    cases hg : fndF c d (appF a b part fs sv).1 with
    | none => rfl
    | some y =>
      exfalso
      obtain ⟨y1, y2, y3⟩ := fnd_mem hg
      rcases app_mem hS y1 with ⟨q1, _⟩ | ⟨f, q1, q2⟩ | ⟨q1, e, q2⟩
      · exact hno y q1 ⟨y2, y3⟩
      · obtain ⟨f1, f2, f3⟩ := fnd_mem q1
        rw [q2] at y2 y3
        exact h ⟨y2.symm.trans f2, y3.symm.trans f3⟩
      · rw [q2] at y2 y3
        exact h ⟨y2.symm, y3.symm⟩
theorem szF_app_ne {a b c d : Int32} {part : List Int32} {fs : List AF} {sv : List Nat} (hS : SrtF fs) (h : ¬ (c = a ∧ d = b)) : szF c d (appF a b part fs sv).1 = szF c d fs := by
  unfold szF
  rw [fnd_app_ne hS h]
/-- the written file: what it was, and then the part -/
theorem fnd_app_eq {a b : Int32} {part : List Int32} {fs : List AF} {sv : List Nat} (hS : SrtF fs) : ∃ x, fndF a b (appF a b part fs sv).1 = some x ∧ x.2.2.1.length = szF a b fs + part.length ∧ (∀ f, fndF a b fs = some f → x.2.2.1 = f.2.2.1 ++ part) ∧ (fndF a b fs = none → x.2.2.1 = part) := by
  obtain ⟨x, x1, x2, x3, x4, x5⟩ := app_has (a := a) (b := b) (part := part) (sv := sv) hS
  refine ⟨x, x1, ?_⟩
  unfold szF
  rcases x4 with ⟨f, f1, f2⟩ | ⟨f1, c, f2⟩
  · rw [f1, f2]
    refine ⟨List.length_append, fun g hg => ?_, fun hg => by cases hg⟩
    cases hg
    rfl
  · rw [f1, f2]
    refine ⟨?_, fun g hg => (by cases hg), fun _ => ?_⟩
    · show ([] ++ part).length = 0 + part.length
      rw [List.nil_append, Nat.zero_add]
    · show [] ++ part = part
      exact List.nil_append _
theorem fit_app {a b : Int32} {part : List Int32} {fs : List AF} {sv : List Nat} {r : AR} {x : AF} {P W : Nat} (hS : SrtF fs) (h : rowFit fs r x P W) : ∃ x', rowFit (appF a b part fs sv).1 r x' P W ∧ (x'.2.2.1.drop P).take (14 + r.1.length + W) = (x.2.2.1.drop P).take (14 + r.1.length + W) := by
  obtain ⟨h1, h2, h3, h4, h5, h6⟩ := h
  by_cases c : r.2.1 = a ∧ 0 = b
  · obtain ⟨y, y1, y2, y3, y4⟩ := fnd_app_eq (a := a) (b := b) (part := part) (sv := sv) hS
    rw [← c.1, ← c.2] at y1 y3
    have e := y3 x h1
    have e2 : fndF r.2.1 0 (appF a b part fs sv).1 = some y := by
      rw [c.1, c.2] at y1 ⊢
      rw [← c.2] at y1 ⊢
      exact y1
    refine ⟨y, ⟨e2, h2, h3, h4, h5, ?_⟩, ?_⟩
    · rw [e, List.length_append]
      omega
    · rw [e, List.drop_append, List.take_append]
      have : 14 + r.1.length + W - (x.2.2.1.drop P).length = 0 := by
        rw [List.length_drop]
        omega
      rw [this, List.take_zero, List.append_nil]
  · exact ⟨x, ⟨by rw [fnd_app_ne hS c]; exact h1, h2, h3, h4, h5, h6⟩, rfl⟩
theorem scnt_app2 (a b : List AF) : scnt (a ++ b) = scnt a + scnt b := by
  unfold scnt
  rw [List.filter_append, List.length_append]
theorem scnt_cons (f : AF) (fs : List AF) : scnt (f :: fs) = (if f.2.2.1.length < 12 then 1 else 0) + scnt fs := by
  unfold scnt
  rw [List.filter_cons]
  by_cases c : f.2.2.1.length < 12
  · rw [if_pos (decide_eq_true c), if_pos c, List.length_cons]
    omega
  · rw [if_neg (fun q => c (of_decide_eq_true q)), if_neg c]
    omega
theorem scnt_app {a b : Int32} {part : List Int32} {fs : List AF} {sv : List Nat} (h : 12 ≤ part.length) : scnt (appF a b part fs sv).1 ≤ scnt fs := by
  obtain ⟨X, Y, x, e, x1, x2, hc⟩ := app_split (a := a) (b := b) (part := part) (fs := fs) (sv := sv)
  have hx : ¬ x.2.2.1.length < 12 := by
    rcases hc with ⟨f, _, _, f3⟩ | ⟨_, _, c, f3⟩
    · rw [f3]
      show ¬ (f.2.2.1 ++ part).length < 12
      rw [List.length_append]
      omega
    · rw [f3]
      show ¬ ([] ++ part).length < 12
      rw [List.nil_append]
      omega
  rw [e, scnt_app2, scnt_cons, if_neg hx]
  rcases hc with ⟨f, _, f2, _⟩ | ⟨_, f2, _⟩
  · rw [f2, scnt_app2, scnt_cons]
    omega
  · rw [f2, scnt_app2]
    omega
theorem scnt_len : ∀ fs : List AF, 12 * fs.length ≤ totF fs + 12 * scnt fs
  | [] => Nat.le_refl _
  | f :: fs => by
    have ih := scnt_len fs
    rw [scnt_cons, List.length_cons]
    show _ ≤ f.2.2.1.length + totF fs + _
    split
    · omega
    · omega
theorem scnt_sub {a b : List AF} (h : a.Sublist b) : scnt a ≤ scnt b := (h.filter _).length_le
