/-! the reference: what came last is lost -/
def pF (f : AF) : Int32 × Int32 × List Int32 := (f.1, f.2.1, f.2.2.1)
def kyF (a b : Int32) (f : AF) : Bool := decide (f.1 = a ∧ f.2.1 = b)
theorem srt_ky {G : List AF} {a b : Int32} {i : Nat} {f : AF} (hS : SrtF G) (hf : G[i]? = some f) (hk : kyF a b f = true) : i = plF a b G := by
  obtain ⟨e1, e2⟩ := of_decide_eq_true hk
  have := (fndF_at hS hf).2
  rw [e1, e2] at this
  exact this.symm
theorem era_fil {G : List AF} {a b : Int32} {x : AF} (hS : SrtF G) (hx : fndF a b G = some x) : G.eraseIdx (plF a b G) = G.filter (fun f => !kyF a b f) := by
  obtain ⟨q1, q2, q3⟩ := fndF_some hx
  have hp := lt_of_some q1
  have e : G = G.take (plF a b G) ++ x :: G.drop (plF a b G + 1) := by
    have := List.take_append_drop (plF a b G) G
    rw [drop_cons q1] at this
    exact this.symm
  have k1 : kyF a b x = true := decide_eq_true ⟨q2, q3⟩
  have a1 : (G.take (plF a b G)).filter (fun f => !kyF a b f) = G.take (plF a b G) := by
    rw [List.filter_eq_self]
    intro f hf
    obtain ⟨i, hi⟩ := List.mem_iff_getElem?.mp hf
    rw [List.getElem?_take] at hi
    split at hi
    · rename_i c
      cases hk : kyF a b f with
      | false => rfl
      | true =>
        have := srt_ky hS hi hk
        omega
    · cases hi
  have a2 : (G.drop (plF a b G + 1)).filter (fun f => !kyF a b f) = G.drop (plF a b G + 1) := by
    rw [List.filter_eq_self]
    intro f hf
    obtain ⟨i, hi⟩ := List.mem_iff_getElem?.mp hf
    rw [List.getElem?_drop] at hi
    cases hk : kyF a b f with
    | false => rfl
    | true =>
      have := srt_ky hS hi hk
      omega
  have r : G.filter (fun f => !kyF a b f) = G.take (plF a b G) ++ G.drop (plF a b G + 1) := by
    conv => lhs; rw [e]
    rw [List.filter_append, List.filter_cons, k1, a1]
    simp only [Bool.not_true, Bool.false_eq_true, if_false]
    rw [a2]
  rw [r, List.eraseIdx_eq_take_drop_succ]
theorem set_map {G : List AF} {a b : Int32} {x y : AF} (hS : SrtF G) (hx : fndF a b G = some x) : G.set (plF a b G) y = G.map (fun f => if kyF a b f = true then y else f) := by
  obtain ⟨q1, q2, q3⟩ := fndF_some hx
  have hp := lt_of_some q1
  apply List.ext_getElem?
  intro i
  rw [List.getElem?_set, List.getElem?_map]
  by_cases c : plF a b G = i
  · subst c
    rw [if_pos rfl, if_pos hp, q1]
    show _ = some (if kyF a b x = true then y else x)
    have k1 : kyF a b x = true := decide_eq_true ⟨q2, q3⟩
    rw [if_pos k1]
  · rw [if_neg c]
    cases hf : G[i]? with
    | none => rfl
    | some f =>
      show some f = some (if kyF a b f = true then y else f)
      rw [if_neg (fun hk => c (srt_ky hS hf hk).symm)]
/-- one cut, files that got empty left out -/
theorem cut1_step : ∀ {Fs : List AF} {a b : Int32} {d : Nat} {X : List Int32}, (∀ f, f ∈ Fs → kyF a b f = true → f.2.2.1 = X) → 0 < d → d ≤ X.length → ((if d = X.length then (Fs.filter neF).filter (fun f => !kyF a b f) else (Fs.filter neF).map (fun f => if kyF a b f = true then (a, b, X.take (X.length - d), 0, 0) else f)).map pF) = ((cutF a b d Fs).filter neF).map pF
  | [], a, b, d, X, _, _, _ => by
    split <;> rfl
  | f :: Fs, a, b, d, X, h, h0, hd => by
    have ih := cut1_step (Fs := Fs) (a := a) (b := b) (d := d) (X := X) (fun f' hf' => h f' (List.mem_cons_of_mem _ hf')) h0 hd
    have hf := h f List.mem_cons_self
    have ec : cutF a b d (f :: Fs) = (if f.1 = a ∧ f.2.1 = b then (f.1, f.2.1, cut1 d f.2.2.1, f.2.2.2.1, f.2.2.2.2) else f) :: cutF a b d Fs := rfl
    rw [ec]
    by_cases ck : f.1 = a ∧ f.2.1 = b
    · have hX := hf (decide_eq_true ck)
      have kk : kyF a b f = true := decide_eq_true ck
      have nf : neF f = true := by
        unfold neF
        rw [hX]
        have : X ≠ [] := fun q => by rw [q] at hd; simp at hd; omega
        simp [this]
      rw [if_pos ck, hX]
      have ecut : cut1 d X = X.take (X.length - d) := by
        unfold cut1
        rw [if_pos hd]
      rw [ecut]
      by_cases c : d = X.length
      · rw [if_pos c] at ih ⊢
        have ne : neF (f.1, f.2.1, X.take (X.length - d), f.2.2.2.1, f.2.2.2.2) = false := by
          unfold neF
          rw [show X.length - d = 0 by omega]
          simp
        rw [List.filter_cons, if_pos nf, List.filter_cons, kk, List.filter_cons, ne]
        simp only [Bool.not_true, Bool.false_eq_true, if_false]
        exact ih
      · rw [if_neg c] at ih ⊢
        have ne : neF (f.1, f.2.1, X.take (X.length - d), f.2.2.2.1, f.2.2.2.2) = true := by
          unfold neF
          refine decide_eq_true ?_
          show (X.take (X.length - d)).length ≠ 0
          rw [List.length_take]
          omega
        rw [List.filter_cons, if_pos nf, List.map_cons, if_pos kk, List.map_cons, List.filter_cons, if_pos ne, List.map_cons, ih]
        show (a, b, X.take (X.length - d)) :: _ = (f.1, f.2.1, X.take (X.length - d)) :: _
        rw [ck.1, ck.2]
    · rw [if_neg ck]
      have kk : kyF a b f = false := decide_eq_false ck
      cases nf : neF f with
      | false =>
        rw [List.filter_cons, List.filter_cons, nf]
        simp only [Bool.false_eq_true, if_false]
        exact ih
      | true =>
        rw [List.filter_cons, List.filter_cons, nf]
        simp only [if_true]
        by_cases c : d = X.length
        · rw [if_pos c] at ih ⊢
          rw [List.filter_cons, kk]
          simp only [Bool.not_false, if_true, List.map_cons]
          rw [ih]
        · rw [if_neg c] at ih ⊢
          rw [List.map_cons, kk]
          simp only [Bool.false_eq_true, if_false, List.map_cons]
          rw [← ih]
