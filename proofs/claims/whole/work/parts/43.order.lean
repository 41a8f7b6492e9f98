/-! the order of keys -/
def bv (x : Int32) : Int := (x &&& 255).toInt
def csg : List Int32 → List Int32 → Int
  | x :: xs, y :: ys => if bv x = bv y then csg xs ys else bv x - bv y
  | xs, ys => (xs.length : Int) - (ys.length : Int)
theorem bv_range (x : Int32) : 0 ≤ bv x ∧ bv x ≤ 255 := by
  obtain ⟨j, hj, ej⟩ := pk_andE x (m := 255) 8 rfl
  unfold bv
  rw [ej, nI_toInt (by omega)]
  omega
theorem csg_nil {xs ys : List Int32} (h : xs = [] ∨ ys = []) : csg xs ys = (xs.length : Int) - (ys.length : Int) := by
  rcases h with h | h
  · subst h
    cases ys <;> rfl
  · subst h
    cases xs <;> rfl
theorem csg_cons {x y : Int32} {xs ys : List Int32} : csg (x :: xs) (y :: ys) = if bv x = bv y then csg xs ys else bv x - bv y := rfl
theorem cmp_csg : ∀ (xs ys : List Int32), xs.length < 2 ^ 31 → ys.length < 2 ^ 31 → (cmpL xs ys).toInt = csg xs ys
  | [], ys, h1, h2 => by
    rw [cmp_nil (Or.inl rfl), csg_nil (Or.inl rfl), nI_subI h1 h2]
  | x :: xs, [], h1, h2 => by
    rw [cmp_nil (Or.inr rfl), csg_nil (Or.inr rfl), nI_subI h1 h2]
  | x :: xs, y :: ys, h1, h2 => by
    have ih := cmp_csg xs ys (by simp at h1; omega) (by simp at h2; omega)
    rw [csg_cons]
    have hx := bv_range x
    have hy := bv_range y
    have hd : ((x &&& 255) - (y &&& 255)).toInt = bv x - bv y := by
      rw [Int32.toInt_sub]
      exact Int.bmod_eq_of_le (by unfold bv at *; omega) (by unfold bv at *; omega)
    show (if (x &&& 255) - (y &&& 255) = 0 then cmpL xs ys else (x &&& 255) - (y &&& 255)).toInt = _
    by_cases e : bv x = bv y
    · have e2 : (x &&& 255) - (y &&& 255) = 0 := by
        apply Int32.toInt_inj.mp
        rw [hd, e, Int32.toInt_zero]
        omega
      rw [if_pos e, if_pos e2]
      exact ih
    · have e2 : ¬ (x &&& 255) - (y &&& 255) = 0 := by
        intro q
        rw [q, Int32.toInt_zero] at hd
        omega
      rw [if_neg e, if_neg e2]
      exact hd
theorem csg_anti : ∀ (xs ys : List Int32), csg xs ys = - csg ys xs
  | [], ys => by
    rw [csg_nil (Or.inl rfl), csg_nil (Or.inr rfl)]
    omega
  | x :: xs, [] => by
    rw [csg_nil (Or.inr rfl), csg_nil (Or.inl rfl)]
    omega
  | x :: xs, y :: ys => by
    have ih := csg_anti xs ys
    rw [csg_cons, csg_cons]
    by_cases e : bv x = bv y
    · rw [if_pos e, if_pos e.symm]
      exact ih
    · rw [if_neg e, if_neg (fun q => e q.symm)]
      omega
theorem csg_trans : ∀ (xs ys zs : List Int32), csg xs ys < 0 → csg ys zs < 0 → csg xs zs < 0
  | [], ys, zs => by
    intro h1 h2
    cases zs with
    | nil =>
      rw [csg_nil (Or.inr rfl)] at h2
      simp at h2
      omega
    | cons z zs =>
      rw [csg_nil (Or.inl rfl)]
      simp
  | x :: xs, [], zs => by
    intro h1 h2
    rw [csg_nil (Or.inr rfl)] at h1
    simp at h1
    omega
  | x :: xs, y :: ys, [] => by
    intro h1 h2
    rw [csg_nil (Or.inr rfl)] at h2
    simp at h2
    omega
  | x :: xs, y :: ys, z :: zs => by
    have ih := csg_trans xs ys zs
    rw [csg_cons, csg_cons, csg_cons]
    intro h1 h2
    split at h1
    · split at h2
      · rw [if_pos (by omega)]
        exact ih h1 h2
      · rw [if_neg (by omega)]
        omega
    · split at h2
      · rw [if_neg (by omega)]
        omega
      · rw [if_neg (by omega)]
        omega
theorem csg_same : ∀ (xs ys zs : List Int32), csg xs ys = 0 → csg xs zs = csg ys zs
  | [], [], zs => fun _ => rfl
  | [], y :: ys, zs => by
    intro h
    rw [csg_nil (Or.inl rfl)] at h
    simp at h
    omega
  | x :: xs, [], zs => by
    intro h
    rw [csg_nil (Or.inr rfl)] at h
    simp at h
    omega
  | x :: xs, y :: ys, [] => by
    intro h
    have hx := bv_range x
    have hy := bv_range y
    rw [csg_cons] at h
    split at h
    · have ih := csg_same xs ys [] h
      rw [csg_nil (Or.inr rfl)] at ih ⊢
      rw [csg_nil (Or.inr rfl)] at ih ⊢
      simp at *
      omega
    · omega
  | x :: xs, y :: ys, z :: zs => by
    intro h
    rw [csg_cons] at h
    split at h
    · rename_i e
      have ih := csg_same xs ys zs h
      rw [csg_cons, csg_cons, e, ih]
    · omega
theorem csg_refl (xs : List Int32) : csg xs xs = 0 := by
  have := csg_anti xs xs
  omega
/-! the directory's rows: key, number, place, size, stamp -/
abbrev AR : Type := List Int32 × Int32 × Int32 × Int32 × Int32
def SrtR (rs : List AR) : Prop := rs.Pairwise (fun r r' => csg r.1 r'.1 < 0)
/-- where a key is, or would be -/
def plR (t : List Int32) : List AR → Nat
  | [] => 0
  | r :: rs => if csg r.1 t < 0 then plR t rs + 1 else 0
def isR (t : List Int32) (r : AR) : Bool := decide (csg r.1 t = 0)
theorem plR_le (t : List Int32) (rs : List AR) : plR t rs ≤ rs.length := by
  induction rs with
  | nil => exact Nat.le_refl _
  | cons r rs ih =>
    unfold plR
    split
    · simp only [List.length_cons]
      omega
    · exact Nat.zero_le _
theorem plR_before {t : List Int32} : ∀ (rs : List AR) (i : Nat) (r : AR), i < plR t rs → rs[i]? = some r → csg r.1 t < 0
  | [], i, r, h, _ => absurd h (Nat.not_lt_zero i)
  | x :: rs, i, r, h, hr => by
    unfold plR at h
    split at h
    · rename_i hc
      cases i with
      | zero =>
        simp only [List.getElem?_cons_zero] at hr
        cases hr
        exact hc
      | succ i =>
        simp only [List.getElem?_cons_succ] at hr
        exact plR_before rs i r (by omega) hr
    · exact absurd h (Nat.not_lt_zero i)
theorem plR_at {t : List Int32} : ∀ (rs : List AR) (r : AR), rs[plR t rs]? = some r → ¬ csg r.1 t < 0
  | [], r, h => by cases h
  | x :: rs, r, h => by
    unfold plR at h
    split at h
    · simp only [List.getElem?_cons_succ] at h
      exact plR_at rs r h
    · rename_i hc
      simp only [List.getElem?_cons_zero] at h
      cases h
      exact hc
/-- in a sorted list the place is where the signs change -/
theorem plR_eq {t : List Int32} {rs : List AR} {p : Nat} (hp : p ≤ rs.length) (h1 : ∀ i r, i < p → rs[i]? = some r → csg r.1 t < 0) (h2 : ∀ r, rs[p]? = some r → ¬ csg r.1 t < 0) : plR t rs = p := by
  rcases Nat.lt_trichotomy (plR t rs) p with q | q | q
  · obtain ⟨r, hr⟩ := some_of_lt (show plR t rs < rs.length by omega)
    exact absurd (h1 _ r q hr) (plR_at rs r hr)
  · exact q
  · have := plR_le t rs
    obtain ⟨r, hr⟩ := some_of_lt (show p < rs.length by omega)
    exact absurd (plR_before rs p r q hr) (h2 r hr)
theorem srtR_get {rs : List AR} (h : SrtR rs) {i j : Nat} {r r' : AR} (hi : rs[i]? = some r) (hj : rs[j]? = some r') (hij : i < j) : csg r.1 r'.1 < 0 := by
  have li := lt_of_some hi
  have lj := lt_of_some hj
  have := List.pairwise_iff_getElem.mp h i j li lj hij
  rw [List.getElem?_eq_getElem li] at hi
  rw [List.getElem?_eq_getElem lj] at hj
  rw [Option.some.inj hi, Option.some.inj hj] at this
  exact this
theorem srtR_ins {rs : List AR} {t : List Int32} {x : AR} (h : SrtR rs) (hx : x.1 = t) (hn : ∀ r, rs[plR t rs]? = some r → ¬ csg r.1 t = 0) : SrtR (rs.take (plR t rs) ++ x :: rs.drop (plR t rs)) := by
  have after : ∀ y, y ∈ rs.drop (plR t rs) → csg t y.1 < 0 := by
    intro y hy
    obtain ⟨j, hj⟩ := List.mem_iff_getElem?.mp hy
    rw [List.getElem?_drop] at hj
    have lj := lt_of_some hj
    obtain ⟨f, hf⟩ := some_of_lt (show plR t rs < rs.length by omega)
    have h1 := plR_at rs f hf
    have h2 := hn f hf
    have h4 := csg_anti f.1 t
    have h3 : csg t f.1 < 0 := by omega
    cases j with
    | zero =>
      rw [Nat.add_zero, hf] at hj
      cases hj
      exact h3
    | succ j => exact csg_trans _ _ _ h3 (srtR_get h hf hj (by omega))
  have before : ∀ y, y ∈ rs.take (plR t rs) → csg y.1 t < 0 := by
    intro y hy
    obtain ⟨j, hj⟩ := List.mem_iff_getElem?.mp hy
    rw [List.getElem?_take] at hj
    split at hj
    · exact plR_before rs j y (by assumption) hj
    · cases hj
  unfold SrtR
  rw [List.pairwise_append, List.pairwise_cons]
  refine ⟨h.sublist (List.take_sublist _ _), ⟨?_, h.sublist (List.drop_sublist _ _)⟩, ?_⟩
  · intro y hy
    rw [hx]
    exact after y hy
  · intro y hy w hw
    have h1 := before y hy
    rw [List.mem_cons] at hw
    rcases hw with q | q
    · rw [q, hx]
      exact h1
    · exact csg_trans _ _ _ h1 (after w q)
