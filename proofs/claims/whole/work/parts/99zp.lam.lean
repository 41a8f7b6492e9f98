/-! room: what the files' rows may cost -/
/-- how far a data file's row is below twice its bytes, twice: of the files that still grow -/
def lam1 (f : AF) : Nat := 2 * (2 * f.2.2.1.length - f.2.2.2.1)
def lamF (a : Int32) (fs : List AF) : Nat := match fndF a 0 fs with
  | some f => lam1 f
  | none => 0
def Lam (V : VC) : Nat := lamF V.2.2.2.2.1.2.1 V.1.1 + lamF V.2.2.1.2.2.1 V.1.1
theorem take_at {α : Type} {fs : List α} {p : Nat} {f : α} (h : fs[p]? = some f) : fs = fs.take p ++ f :: fs.drop (p + 1) := by
  obtain ⟨hp, hd⟩ := List.getElem?_eq_some_iff.mp h
  rw [← hd, ← List.drop_eq_getElem_cons hp, List.take_append_drop]
theorem gcap_ge (c m : Nat) : m ≤ gcap c m ∧ c ≤ gcap c m := by
  unfold gcap
  split
  · omega
  · omega
/-- the file that bytes came to -/
theorem fnd_app_at {a b : Int32} {part : List Int32} {fs : List AF} {sv : List Nat} (hS : SrtF fs) : fndF a b (appF a b part fs sv).1 = some (match fndF a b fs with
    | some f => upF part f
    | none => upF part (a, b, [], lastC sv, 0)) ∧ (appF a b part fs sv).2 = (match fndF a b fs with
    | some f => (sv, grw f.2.2.2.1 (f.2.2.1.length + part.length))
    | none => (sv.dropLast, grw (lastC sv) part.length)) := by
  unfold appF
  cases h : (fs[plF a b fs]?).filter (isF a b) with
  | some f =>
    have hf : fndF a b fs = some f := h
    obtain ⟨q1, q2, q3⟩ := fndF_some hf
    have lp := lt_of_some q1
    have s2 : SrtF (fs.set (plF a b fs) (upF part f)) := srt_set hS q1 rfl rfl
    have g2 : (fs.set (plF a b fs) (upF part f))[plF a b fs]? = some (upF part f) := by
      rw [List.getElem?_set, if_pos rfl, if_pos lp]
    have f2 := (fndF_at s2 g2).1
    have f2 : fndF f.1 f.2.1 (fs.set (plF a b fs) (upF part f)) = some (upF part f) := f2
    rw [q2, q3] at f2
    rw [hf]
    exact ⟨f2, rfl⟩
  | none =>
    have hf : fndF a b fs = none := h
    have hno := (fnd_none (a := a) (b := b) hS).mp (by rw [hf]; rfl)
    have s2 : SrtF (insF (plF a b fs) (upF part (a, b, [], lastC sv, 0)) fs) := srt_ins hS ⟨rfl, rfl⟩ (fun f hf => hno f (List.mem_of_getElem? hf))
    have lp := plF_le a b fs
    have g2 : (insF (plF a b fs) (upF part (a, b, [], lastC sv, 0)) fs)[plF a b fs]? = some (upF part (a, b, [], lastC sv, 0)) := by
      unfold insF
      rw [List.getElem?_append_right (by rw [List.length_take]; omega), List.length_take, Nat.min_eq_left lp, Nat.sub_self]
      rfl
    have f2 := (fndF_at s2 g2).1
    rw [hf]
    exact ⟨f2, rfl⟩
/-- bytes that come to a data file -/
theorem lam_app0 {a : Int32} {part : List Int32} {fs : List AF} {sv : List Nat} (hS : SrtF fs) : (appF a 0 part fs sv).2.2 + lamF a (appF a 0 part fs sv).1 ≤ lamF a fs + 4 * part.length := by
  have one : ∀ (L s n : Nat), grw L (s + n) + 2 * (2 * (s + n) - gcap L (s + n)) ≤ 2 * (2 * s - L) + 4 * n := by
    intro L s n
    unfold grw gcap
    split <;> omega
  obtain ⟨h1, h2⟩ := fnd_app_at (a := a) (b := 0) (part := part) (sv := sv) hS
  unfold lamF
  rw [h1, h2]
  cases hf : fndF a 0 fs with
  | some f =>
    have := one f.2.2.2.1 f.2.2.1.length part.length
    show grw f.2.2.2.1 (f.2.2.1.length + part.length) + 2 * (2 * (f.2.2.1 ++ part).length - gcap f.2.2.2.1 (f.2.2.1 ++ part).length) ≤ 2 * (2 * f.2.2.1.length - f.2.2.2.1) + _
    rw [List.length_append]
    exact this
  | none =>
    have := one (lastC sv) 0 part.length
    rw [Nat.zero_add] at this
    show grw (lastC sv) part.length + 2 * (2 * part.length - gcap (lastC sv) part.length) ≤ 0 + 4 * part.length
    omega
theorem lamF_ne {a b c : Int32} {part : List Int32} {fs : List AF} {sv : List Nat} (hS : SrtF fs) (h : ¬ (c = a ∧ (0 : Int32) = b)) : lamF c (appF a b part fs sv).1 = lamF c fs := by
  unfold lamF
  rw [fnd_app_ne hS h]
/-- a hint, a mark -/
theorem lam_app1 {a b : Int32} {part : List Int32} {fs : List AF} {sv : List Nat} (hS : SrtF fs) (hn : fndF a b fs = none) : (appF a b part fs sv).2.2 ≤ 2 * part.length := by
  obtain ⟨h1, h2⟩ := fnd_app_at (a := a) (b := b) (part := part) (sv := sv) hS
  rw [h2, hn]
  show grw (lastC sv) part.length ≤ 2 * part.length
  unfold grw gcap
  split
  · omega
  · omega
theorem lamF_m1 {fs : List AF} (h : ∀ f, f ∈ fs → 1 ≤ f.1.toInt) : lamF (-1) fs = 0 := by
  unfold lamF
  cases hf : fndF (-1) 0 fs with
  | none => rfl
  | some f =>
    obtain ⟨w1, w2, _⟩ := fnd_mem hf
    have := h f w1
    rw [w2] at this
    exact absurd this (by decide)
/-- what of the files rooms depend on -/
def sh1 (f : AF) : Int32 × Int32 × Nat × Nat := (f.1, f.2.1, f.2.2.1.length, f.2.2.2.1)
def shF (fs : List AF) : List (Int32 × Int32 × Nat × Nat) := fs.map sh1
theorem shF_fnd (a b : Int32) : ∀ {fs fs' : List AF}, shF fs = shF fs' → (fndF a b fs).map sh1 = (fndF a b fs').map sh1 := by
  intro fs fs' h
  have hp : ∀ fs fs' : List AF, shF fs = shF fs' → plF a b fs = plF a b fs' := by
    intro fs
    induction fs with
    | nil =>
      intro fs' h
      cases fs' with
      | nil => rfl
      | cons f' l => cases h
    | cons f l ih =>
      intro fs' h
      cases fs' with
      | nil => cases h
      | cons f' l' =>
        have h : sh1 f :: shF l = sh1 f' :: shF l' := h
        injection h with h1 h2
        have e1 : f.1 = f'.1 := congrArg (fun x => x.1) h1
        have e2 : f.2.1 = f'.2.1 := congrArg (fun x => x.2.1) h1
        unfold plF
        rw [e1, e2, ih l' h2]
  unfold fndF
  rw [hp fs fs' h]
  have g : (fs[plF a b fs']?).map sh1 = (fs'[plF a b fs']?).map sh1 := by
    have := congrArg (fun l => l[plF a b fs']?) h
    unfold shF at this
    simpa only [List.getElem?_map] using this
  cases c1 : fs[plF a b fs']? with
  | none =>
    cases c2 : fs'[plF a b fs']? with
    | none => rfl
    | some f' =>
      rw [c1, c2] at g
      cases g
  | some f =>
    cases c2 : fs'[plF a b fs']? with
    | none =>
      rw [c1, c2] at g
      cases g
    | some f' =>
      rw [c1, c2] at g
      have g := Option.some.inj g
      have e1 : f.1 = f'.1 := congrArg (fun x => x.1) g
      have e2 : f.2.1 = f'.2.1 := congrArg (fun x => x.2.1) g
      have ei : isF a b f = isF a b f' := by
        unfold isF
        rw [e1, e2]
      rw [Option.filter_some, Option.filter_some, ei]
      split
      · exact congrArg some g
      · rfl
theorem lamF_sh {a : Int32} {fs fs' : List AF} (h : shF fs = shF fs') : lamF a fs = lamF a fs' := by
  have := shF_fnd a 0 h
  unfold lamF
  cases c1 : fndF a 0 fs with
  | none =>
    cases c2 : fndF a 0 fs' with
    | none => rfl
    | some f' =>
      rw [c1, c2] at this
      cases this
  | some f =>
    cases c2 : fndF a 0 fs' with
    | none =>
      rw [c1, c2] at this
      cases this
    | some f' =>
      rw [c1, c2] at this
      have g : sh1 f = sh1 f' := Option.some.inj this
      have e1 : f.2.2.1.length = f'.2.2.1.length := congrArg (fun x => x.2.2.1) g
      have e2 : f.2.2.2.1 = f'.2.2.2.1 := congrArg (fun x => x.2.2.2) g
      show lam1 f = lam1 f'
      unfold lam1
      rw [e1, e2]
theorem sh_ph (fs : List AF) : shF (fs.map ph0) = shF fs := by
  unfold shF
  rw [List.map_map]
  rfl
