/-! room: the stack of spare rows, and what a merge writes -/
abbrev Sh : Type := Int32 × Int32 × Nat × Nat
/-- the spares' row lengths, from the one that is taken next on -/
def stk (sv : List Nat) (p : Nat) : Nat := (sv.reverse[p]?).getD 16
theorem stk_last (sv : List Nat) : lastC sv = stk sv 0 := by
  unfold lastC stk
  rw [← List.head?_eq_getElem?, List.head?_reverse]
theorem stk_drop (sv : List Nat) (p : Nat) : stk sv.dropLast p = stk sv (p + 1) := by
  unfold stk
  have e : sv.dropLast.reverse = sv.reverse.tail := by
    rw [List.tail_reverse]
  rw [e, List.getElem?_tail]
theorem stk_push0 (sv : List Nat) (c : Nat) : stk (sv ++ [c]) 0 = c := by
  unfold stk
  rw [List.reverse_append]
  rfl
theorem stk_push (sv : List Nat) (c p : Nat) : stk (sv ++ [c]) (p + 1) = stk sv p := by
  unfold stk
  rw [List.reverse_append]
  rfl
/-- behind all of them -/
def allLt (a b : Int32) (fs : List AF) : Prop := ∀ f, f ∈ fs → f.1 < a ∨ (f.1 = a ∧ f.2.1 < b)
theorem plF_end {a b : Int32} : ∀ {fs : List AF}, allLt a b fs → ∀ l, plF a b (fs ++ l) = fs.length + plF a b l
  | [], _, l => by show plF a b l = 0 + plF a b l; omega
  | f :: fs, h, l => by
    have ih := plF_end (fs := fs) (fun g hg => h g (List.mem_cons_of_mem _ hg)) l
    have hf := h f List.mem_cons_self
    show (if a < f.1 ∨ (f.1 = a ∧ ¬ f.2.1 < b) then 0 else plF a b (fs ++ l) + 1) = fs.length + 1 + plF a b l
    rw [if_neg, ih]
    · omega
    · rintro (q | ⟨q1, q2⟩)
      · rcases hf with z | z
        · rw [Int32.lt_iff_toInt_lt] at q z
          omega
        · rw [z.1, Int32.lt_iff_toInt_lt] at q
          omega
      · rcases hf with z | z
        · rw [q1, Int32.lt_iff_toInt_lt] at z
          omega
        · exact q2 z.2
theorem app_new {a b : Int32} {part : List Int32} {fs : List AF} {sv : List Nat} (h : allLt a b fs) : appF a b part fs sv = (fs ++ [upF part (a, b, [], lastC sv, 0)], sv.dropLast, grw (lastC sv) part.length) := by
  have hp := plF_end h []
  rw [List.append_nil] at hp
  have hp : plF a b fs = fs.length := hp
  unfold appF
  rw [hp, List.getElem?_eq_none (Nat.le_refl _)]
  show (insF fs.length (upF part (a, b, [], lastC sv, 0)) fs, sv.dropLast, grw (lastC sv) part.length) = _
  unfold insF
  rw [List.take_length, List.drop_length]
theorem app_last {a b : Int32} {part : List Int32} {xs : List AF} {f : AF} {sv : List Nat} (h : allLt a b xs) (h1 : f.1 = a) (h2 : f.2.1 = b) : appF a b part (xs ++ [f]) sv = (xs ++ [upF part f], sv, grw f.2.2.2.1 (f.2.2.1.length + part.length)) := by
  have hp := plF_end h [f]
  have hp2 : plF a b [f] = 0 := by
    show (if a < f.1 ∨ (f.1 = a ∧ ¬ f.2.1 < b) then 0 else _) = 0
    refine if_pos (Or.inr ⟨h1, ?_⟩)
    rw [h2, Int32.lt_iff_toInt_lt]
    omega
  rw [hp2, Nat.add_zero] at hp
  unfold appF
  have g : (xs ++ [f])[xs.length]? = some f := by
    rw [List.getElem?_append_right (Nat.le_refl _), Nat.sub_self]
    rfl
  have gi : isF a b f = true := by
    unfold isF
    exact decide_eq_true ⟨h1, h2⟩
  rw [hp, g, Option.filter_some, if_pos gi]
  show ((xs ++ [f]).set xs.length (upF part f), sv, _) = _
  rw [set_split g]
  have e1 : (xs ++ [f]).take xs.length = xs := List.take_left' rfl
  have e2 : (xs ++ [f]).drop (xs.length + 1) = [] := List.drop_eq_nil_of_le (by rw [List.length_append]; exact Nat.le_refl _)
  rw [e1, e2]
theorem srt_lt {a b : Int32} {xs ys : List AF} {f : AF} (h : SrtF (xs ++ f :: ys)) (h1 : f.1 = a) (h2 : f.2.1 = b) : allLt a b xs := by
  intro g hg
  have := (List.pairwise_append.mp h).2.2 g hg f List.mem_cons_self
  rw [h1, h2] at this
  exact this
theorem sh_app (a b : List AF) : shF (a ++ b) = shF a ++ shF b := List.map_append
theorem sh_split {fs : List AF} {a b : List Sh} (h : shF fs = a ++ b) : ∃ xs ys, fs = xs ++ ys ∧ shF xs = a ∧ shF ys = b := List.map_eq_append_iff.mp h
theorem sh_one {fs : List AF} {a : List Sh} {s : Sh} (h : shF fs = a ++ [s]) : ∃ xs f, fs = xs ++ [f] ∧ shF xs = a ∧ sh1 f = s := by
  obtain ⟨xs, ys, h1, h2, h3⟩ := sh_split h
  cases ys with
  | nil => cases h3
  | cons f l =>
    have h3 : sh1 f :: shF l = [s] := h3
    injection h3 with h4 h5
    cases l with
    | nil => exact ⟨xs, f, h1, h2, h4⟩
    | cons g l => cases h5
/-- what a merge writes, one file behind the other -/
def se (r : AR) : Nat × Nat := (rcn r, ecn r)
def cnt (F : Nat) : List (Nat × Nat) → Nat → Nat → List Nat
  | [], c, h => [c, h]
  | x :: l, c, h => if c + x.1 ≤ F then cnt F l (c + x.1) (h + x.2) else c :: h :: cnt F l x.1 (8 + x.2)
def cn0 (F : Nat) : List (Nat × Nat) → List Nat
  | [] => []
  | x :: l => cnt F l x.1 (8 + x.2)
theorem cnt_hd (F : Nat) : ∀ (l : List (Nat × Nat)) (c h : Nat), ∃ d e t, cnt F l c h = d :: e :: t ∧ c ≤ d ∧ h ≤ e
  | [], c, h => ⟨c, h, [], rfl, Nat.le_refl _, Nat.le_refl _⟩
  | x :: l, c, h => by
    unfold cnt
    split
    · obtain ⟨d, e, t, h1, h2, h3⟩ := cnt_hd F l (c + x.1) (h + x.2)
      exact ⟨d, e, t, h1, by omega, by omega⟩
    · exact ⟨c, h, _, rfl, Nat.le_refl _, Nat.le_refl _⟩
theorem cnt_even (F : Nat) : ∀ (l : List (Nat × Nat)) (c h : Nat), ∃ K, (cnt F l c h).length = 2 * K + 2
  | [], _, _ => ⟨0, rfl⟩
  | x :: l, c, h => by
    unfold cnt
    split
    · exact cnt_even F l _ _
    · obtain ⟨K, hK⟩ := cnt_even F l x.1 (8 + x.2)
      refine ⟨K + 1, ?_⟩
      rw [List.length_cons, List.length_cons, hK]
      omega
/-- the bytes, counted by files and by records -/
theorem cnt_sum (F : Nat) : ∀ (l : List AR) (c h : Nat), (cnt F (l.map se) c h).sum = c + h + pk F l (some c)
  | [], c, h => by
    show c + (h + 0) = c + h + 0
    omega
  | r :: l, c, h => by
    show (if c + rcn r ≤ F then cnt F (l.map se) (c + rcn r) (h + ecn r) else c :: h :: cnt F (l.map se) (rcn r) (8 + ecn r)).sum = c + h + (if c + rcn r ≤ F then (rcn r + 14 + r.1.length) + pk F l (some (c + rcn r)) else 8 + (rcn r + 14 + r.1.length) + pk F l (some (rcn r)))
    have e : ecn r = 14 + r.1.length := rfl
    split
    · rw [cnt_sum F l]
      omega
    · rw [List.sum_cons, List.sum_cons, cnt_sum F l]
      omega
theorem cn0_sum (F : Nat) (l : List AR) : (cn0 F (l.map se)).sum = pk F l none := by
  cases l with
  | nil => rfl
  | cons r l =>
    show (cnt F (l.map se) (rcn r) (8 + ecn r)).sum = 8 + (rcn r + 14 + r.1.length) + pk F l (some (rcn r))
    have e : ecn r = 14 + r.1.length := rfl
    rw [cnt_sum]
    omega
/-- pairs of a data file and its hint -/
def Prs : List Sh → Prop
  | [] => True
  | [_] => False
  | x :: y :: l => (x.1 = y.1 ∧ x.2.1 = 0 ∧ y.2.1 = 1) ∧ Prs l
theorem prs_app : ∀ {a b : List Sh}, Prs a → Prs b → Prs (a ++ b)
  | [], _, _, h => h
  | [_], _, h, _ => absurd h id
  | x :: y :: l, b, h, hb => ⟨h.1, prs_app (a := l) h.2 hb⟩
def lens (l : List Sh) : List Nat := l.map (fun s => s.2.2.1)
theorem lens_app (a b : List Sh) : lens (a ++ b) = lens a ++ lens b := List.map_append
/-- the rows that a merge gives to its files -/
def capOK (x0 : Nat → Nat) (σ : List Nat) (gs : List Sh) : Prop := ∀ p s, gs[p]? = some s → x0 p ≤ s.2.2.2 ∧ s.2.2.1 ≤ s.2.2.2 ∧ (σ.getD p 0 ≤ x0 p → s.2.2.2 = x0 p)
theorem capOK_new {x0 : Nat → Nat} {σ : List Nat} {gs : List Sh} {a b : Int32} {n : Nat} (h : capOK x0 σ gs) (hn : n ≤ σ.getD gs.length 0) : capOK x0 σ (gs ++ [(a, b, n, gcap (x0 gs.length) n)]) ∧ (σ.getD gs.length 0 ≤ x0 gs.length → grw (x0 gs.length) n = 0) := by
  constructor
  · intro p s hp
    rcases Nat.lt_trichotomy p gs.length with c | c | c
    · rw [List.getElem?_append_left c] at hp
      exact h p s hp
    · subst c
      rw [List.getElem?_append_right (Nat.le_refl _), Nat.sub_self] at hp
      cases hp
      have := gcap_ge (x0 gs.length) n
      refine ⟨this.2, this.1, fun q => ?_⟩
      show gcap (x0 gs.length) n = _
      unfold gcap
      rw [if_pos (by omega)]
    · rw [List.getElem?_eq_none (by rw [List.length_append]; show gs.length + 1 ≤ p; omega)] at hp
      cases hp
  · intro q
    unfold grw
    rw [if_pos (by omega)]
theorem capOK_last {x0 : Nat → Nat} {σ : List Nat} {gs : List Sh} {a b : Int32} {n m k : Nat} (h : capOK x0 σ (gs ++ [(a, b, n, k)])) (hn : m ≤ σ.getD gs.length 0) : capOK x0 σ (gs ++ [(a, b, m, gcap k m)]) ∧ (σ.getD gs.length 0 ≤ x0 gs.length → grw k m = 0) := by
  have h0 := h gs.length (a, b, n, k) (by rw [List.getElem?_append_right (Nat.le_refl _), Nat.sub_self]; rfl)
  obtain ⟨h1, h2, h3⟩ := h0
  have h1 : x0 gs.length ≤ k := h1
  have h3 : σ.getD gs.length 0 ≤ x0 gs.length → k = x0 gs.length := h3
  constructor
  · intro p s hp
    rcases Nat.lt_trichotomy p gs.length with c | c | c
    · rw [List.getElem?_append_left c] at hp
      exact h p s (by rw [List.getElem?_append_left c]; exact hp)
    · subst c
      rw [List.getElem?_append_right (Nat.le_refl _), Nat.sub_self] at hp
      cases hp
      have := gcap_ge k m
      refine ⟨by show _ ≤ gcap k m; omega, this.1, fun q => ?_⟩
      have := h3 q
      show gcap k m = _
      unfold gcap
      rw [if_pos (by omega)]
      exact this
    · rw [List.getElem?_eq_none (by rw [List.length_append]; show gs.length + 1 ≤ p; omega)] at hp
      cases hp
  · intro q
    have := h3 q
    unfold grw
    rw [if_pos (by omega)]
