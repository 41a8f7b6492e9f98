/-! an opening's files: a hint lies right behind its data -/
def HDl (l : List AF) : Prop := ∀ (j : Nat) (f : AF), l[j]? = some f → f.2.1 = 0 ∨ (f.2.1 = 1 ∧ ∃ (j' : Nat) (d : AF), j = j' + 1 ∧ l[j']? = some d ∧ d.1 = f.1 ∧ d.2.1 = 0)
theorem hd_head {f : AF} {l : List AF} (h : HDl (f :: l)) : f.2.1 = 0 := by
  rcases h 0 f rfl with q | ⟨_, j', d, e, _⟩
  · exact q
  · omega
theorem hd_tail2 {f x : AF} {l : List AF} (h : HDl (f :: x :: l)) (hx : x.2.1 = 1) : x.1 = f.1 ∧ HDl l := by
  constructor
  · rcases h 1 x rfl with q | ⟨_, j', d, e, hd, e1, _⟩
    · rw [hx] at q
      exact absurd q (by decide)
    · have : j' = 0 := by omega
      subst this
      cases hd
      exact e1.symm
  · intro j y hy
    rcases h (j + 2) y hy with q | ⟨q, j', d, e, hd, e1, e2⟩
    · exact Or.inl q
    · refine Or.inr ⟨q, ?_⟩
      have : j' = j + 1 := by omega
      subst this
      cases j with
      | zero =>
        cases hd
        rw [hx] at e2
        exact absurd e2 (by decide)
      | succ j => exact ⟨j, d, rfl, hd, e1, e2⟩
theorem hd_tail1 {f : AF} {l : List AF} (h : HDl (f :: l)) (h1 : ∀ x, l[0]? = some x → ¬ x.2.1 = 1) : HDl l := by
  intro j y hy
  rcases h (j + 1) y hy with q | ⟨q, j', d, e, hd, e1, e2⟩
  · exact Or.inl q
  · have : j' = j := by omega
    subst this
    cases j' with
    | zero => exact absurd q (h1 y hy)
    | succ j => exact Or.inr ⟨q, j, d, rfl, hd, e1, e2⟩
theorem drop_get {α : Type} {l l1 : List α} {i : Nat} {f : α} (h : l.drop i = f :: l1) : l[i]? = some f ∧ l.drop (i + 1) = l1 := by
  constructor
  · have := congrArg (fun q => q[0]?) h
    rw [List.getElem?_drop, Nat.add_zero] at this
    exact this
  · have := congrArg (fun q => q.drop 1) h
    rw [List.drop_drop] at this
    exact this
theorem hd_hint {fs l : List AF} {i : Nat} {f x : AF} (hS : SrtF fs) (hd : fs.drop i = f :: l) (h : HDl (f :: l)) (hx : fndF f.1 1 fs = some x) : ∃ l2, l = x :: l2 ∧ plF f.1 1 fs = i + 1 := by
  obtain ⟨q1, q2, q3⟩ := fndF_some hx
  obtain ⟨hf, hl⟩ := drop_get hd
  have f0 := hd_head h
  have hgt : i < plF f.1 1 fs := plF_gt hS hf (by
    refine Or.inr ⟨rfl, ?_⟩
    show f.2.1 < 1
    rw [f0]
    decide)
  have hj : (f :: l)[plF f.1 1 fs - i]? = some x := by
    rw [← hd, List.getElem?_drop, ← q1]
    congr 1
    omega
  rcases h _ x hj with q | ⟨_, j', d, e, hd', e1, e2⟩
  · rw [q3] at q
    exact absurd q (by decide)
  · rw [← hd, List.getElem?_drop] at hd'
    have h1 := (fndF_at hS hd').2
    have h2 := (fndF_at hS hf).2
    rw [e1, q2, e2] at h1
    rw [f0] at h2
    have ej : j' = 0 := by omega
    have ep : plF f.1 1 fs = i + 1 := by omega
    refine ⟨l.drop 1, ?_, ep⟩
    rw [ep] at q1
    have := drop_cons q1
    rw [hl] at this
    rw [this]
    rfl
theorem hd_nohint {fs l : List AF} {i : Nat} {f : AF} (hS : SrtF fs) (hd : fs.drop i = f :: l) (h : HDl (f :: l)) (hx : fndF f.1 1 fs = none) : ∀ x, l[0]? = some x → ¬ x.2.1 = 1 := by
  intro x h0 c
  obtain ⟨hf, hl⟩ := drop_get hd
  have hx1 : fs[i + 1]? = some x := by
    rw [← h0, ← hl, List.getElem?_drop]
  have e : l = x :: l.drop 1 := by
    have := drop_cons h0
    exact this
  rw [e] at h
  have e1 := (hd_tail2 h c).1
  have := (fndF_at hS hx1).1
  rw [e1, c, hx] at this
  cases this
theorem hd_num {f : AF} {l : List AF} (hS : SrtF (f :: l)) (h : HDl l) (h0 : f.2.1 = 0) : ∀ y, y ∈ l → ¬ y.1 = f.1 := by
  intro y hy c
  have hp := List.pairwise_cons.mp hS
  have hlt : ∀ z, z ∈ l → z.1 = f.1 → ¬ z.2.1 = 0 := by
    intro z hz e1 e2
    rcases hp.1 z hz with q | q
    · rw [e1] at q
      exact absurd q (Int32.lt_irrefl)
    · rw [h0, e2] at q
      exact absurd q.2 (by decide)
  obtain ⟨j, hj⟩ := List.mem_iff_getElem?.mp hy
  rcases h j y hj with q | ⟨_, j', d, e, hd, e1, e2⟩
  · exact hlt y hy c q
  · exact hlt d (List.mem_of_getElem? hd) (e1.trans c) e2
theorem rr_bnd (l : List Int32) (a : Int32) : ∀ (t i : Nat) (V : VC), i ≤ l.length → (rrL l a t i V).2.1 = V.1 ∧ i ≤ (rrL l a t i V).1 ∧ (rrL l a t i V).1 ≤ l.length ∧ 15 * (rrL l a t i V).2.2.1.length + i ≤ 15 * V.2.1.length + (rrL l a t i V).1 ∧ (SrtR V.2.1 → SrtR (rrL l a t i V).2.2.1)
  | 0, i, V, hi => ⟨rfl, Nat.le_refl _, hi, Nat.le_refl _, id⟩
  | t + 1, i, V, hi => by
    unfold rrL
    cases hw : whl l i with
    | false => exact ⟨rfl, Nat.le_refl _, hi, Nat.le_refl _, id⟩
    | true =>
      dsimp only
      have hw1 := hw
      unfold whl at hw1
      simp only [Bool.and_eq_true] at hw1
      obtain ⟨⟨⟨g1, g2⟩, g3⟩, g4⟩ := hw1
      have g3 := of_decide_eq_true g3
      obtain ⟨d1, d2, d3, d4, d5, d6⟩ := told_d g2
      have r15 : 15 ≤ rsn (bsh l (nI i + 8)) (bnm l (nI i + 10)) := by
        unfold rsn
        omega
      have ho := opRd_rows (t := keyA l i) (a := a) (b := nI i) (c := bnm l (nI i + 10)) (d := bnm l (nI i + 4)) (V := V)
      obtain ⟨b1, b2, b3, b4, b5⟩ := rr_bnd l a t (i + rsn (bsh l (nI i + 8)) (bnm l (nI i + 10))) (si903 (V.2.2.2.1.2.1 + 1) (opRd (keyA l i) a (nI i) (bnm l (nI i + 10)) (bnm l (nI i + 4)) V)) g3
      have e : (si903 (V.2.2.2.1.2.1 + 1) (opRd (keyA l i) a (nI i) (bnm l (nI i + 10)) (bnm l (nI i + 4)) V)).2.1 = (opRd (keyA l i) a (nI i) (bnm l (nI i + 10)) (bnm l (nI i + 4)) V).2.1 := rfl
      rw [e] at b4 b5
      exact ⟨b1, by omega, b3, by omega, fun q => b5 (ho.2 q)⟩
theorem rh_bnd (l : List Int32) (a : Int32) (en : Nat) (ds : Int32) : ∀ (u j : Nat) (c : Int32) (V : VC), ghL l en ds u j c = true → j ≤ en → 15 * (rhL l a en u j V).2.1.length + j ≤ 15 * V.2.1.length + en ∧ (SrtR V.2.1 → SrtR (rhL l a en u j V).2.1)
  | 0, j, c, V, h, _ => by cases h
  | u + 1, j, c, V, h, hj => by
    unfold ghL at h
    unfold rhL
    by_cases ce : en ≤ j
    · rw [if_pos ce]
      exact ⟨by omega, id⟩
    · rw [if_neg ce] at h ⊢
      obtain ⟨h1, h2⟩ := Bool.and_eq_true_iff.mp h
      unfold gen at h1
      simp only [Bool.and_eq_true] at h1
      obtain ⟨⟨⟨⟨g1, g2⟩, g3⟩, g4⟩, g5⟩ := h1
      have g3 := of_decide_eq_true g3
      obtain ⟨d1, d2, d3, d4, d5, d6⟩ := told_d g2
      have ho := opRd_rows (t := keyA l j) (a := a) (b := bnm l (nI j + 4)) (c := bnm l (nI j + 10)) (d := bnm l (nI j)) (V := V)
      obtain ⟨b1, b2⟩ := rh_bnd l a en ds u (j + 14 + (bsh l (nI j + 8)).toNatClampNeg) (c + 1) (si902 (V.2.2.2.1.1 + 1) (opRd (keyA l j) a (bnm l (nI j + 4)) (bnm l (nI j + 10)) (bnm l (nI j)) V)) h2 g3
      have e : (si902 (V.2.2.2.1.1 + 1) (opRd (keyA l j) a (bnm l (nI j + 4)) (bnm l (nI j + 10)) (bnm l (nI j)) V)).2.1 = (opRd (keyA l j) a (bnm l (nI j + 4)) (bnm l (nI j + 10)) (bnm l (nI j)) V).2.1 := rfl
      rw [e] at b1 b2
      exact ⟨by omega, fun q => b2 (ho.2 q)⟩
theorem ghi_d {l : List Int32} {ds : Int32} (h : ghi l ds = true) : 8 ≤ l.length ∧ ghL l (l.length - 4) ds 20000 4 0 = true := by
  unfold ghi at h
  simp only [Bool.and_eq_true] at h
  exact ⟨of_decide_eq_true h.1.1, h.2⟩
theorem rrE_files {p n i : Nat} {f : AF} {V : VC} (hS : SrtF V.1.1) (hf : V.1.1[p]? = some f) (h0 : f.2.1 = 0) : (rrE p f.1 n i V).1.1 = (if i = 0 then V.1.1.eraseIdx p else V.1.1.set p (f.1, f.2.1, f.2.2.1.take i, f.2.2.2.1, f.2.2.2.2)) ∧ (rrE p f.1 n i V).2.1 = V.2.1 := by
  cases i with
  | zero =>
    have hc : cutP p 0 V.1.1 = V.1.1.set p (f.1, f.2.1, f.2.2.1.take 0, f.2.2.2.1, f.2.2.2.2) := by
      unfold cutP
      rw [hf]
    have hsc : SrtF (cutP p 0 V.1.1) := by
      rw [hc]
      exact srt_set hS hf rfl rfl
    have hcp : (cutP p 0 V.1.1)[p]? = some (f.1, f.2.1, f.2.2.1.take 0, f.2.2.2.1, f.2.2.2.2) := by
      rw [hc, List.getElem?_set, if_pos rfl, if_pos (lt_of_some hf)]
    have d1 := dis_at hsc hcp
    have d1 : disF f.1 f.2.1 (cutP p 0 V.1.1) = (cutP p 0 V.1.1).eraseIdx p := d1
    rw [h0] at d1
    constructor
    · show (opDis f.1 0 _).1.1 = _
      rw [opDis_files]
      show disF f.1 0 (cutP p 0 V.1.1) = _
      rw [d1, hc, List.eraseIdx_set_eq]
      rfl
    · show (opDis f.1 0 _).2.1 = _
      rw [opDis_rest]
      rfl
  | succ i =>
    constructor
    · show cutP p (i + 1) V.1.1 = _
      unfold cutP
      rw [hf]
      rfl
    · rfl
/-- what is left once the file at i is read from its records -/
theorem rdV_files {p : Nat} {f : AF} {V : VC} {l : List AF} (hS : SrtF V.1.1) (hd : V.1.1.drop p = f :: l) (h0 : f.2.1 = 0) : SrtF (rdV p f V).2.1.1 ∧ (rdV p f V).2.1.1.drop (if (rdV p f V).1 = 0 then p else p + 1) = l ∧ (rdV p f V).1 ≤ f.2.2.1.length ∧ 15 * (rdV p f V).2.2.1.length ≤ 15 * V.2.1.length + (rdV p f V).1 ∧ (SrtR V.2.1 → SrtR (rdV p f V).2.2.1) ∧ (rdV p f V).2.1.1 = (if (rdV p f V).1 = 0 then V.1.1.eraseIdx p else V.1.1.set p (f.1, f.2.1, f.2.2.1.take (rdV p f V).1, f.2.2.2.1, f.2.2.2.2)) := by
  obtain ⟨hf, hl⟩ := drop_get hd
  obtain ⟨b1, b2, b3, b4, b5⟩ := rr_bnd f.2.2.1 f.1 f.2.2.1.length 0 V (Nat.zero_le _)
  have e : (rdV p f V).2 = rrE p f.1 f.2.2.1.length (rdV p f V).1 (rrL f.2.2.1 f.1 f.2.2.1.length 0 V).2 := rfl
  have e0 : (rdV p f V).1 = (rrL f.2.2.1 f.1 f.2.2.1.length 0 V).1 := rfl
  generalize rrL f.2.2.1 f.1 f.2.2.1.length 0 V = r at *
  have hS' : SrtF r.2.1.1 := by
    rw [b1]
    exact hS
  have hf' : r.2.1.1[p]? = some f := by
    rw [b1]
    exact hf
  obtain ⟨c1, c2⟩ := rrE_files (n := f.2.2.1.length) (i := (rdV p f V).1) hS' hf' h0
  rw [b1] at c1
  rw [e]
  have hp := lt_of_some hf
  have l1 : (V.1.1.take p).length = p := by rw [List.length_take]; omega
  refine ⟨?_, ?_, by omega, by rw [c2]; omega, fun q => by rw [c2]; exact b5 q, c1⟩
  · rw [c1]
    split
    · exact List.Pairwise.sublist (List.eraseIdx_sublist _ _) hS
    · exact srt_set hS hf rfl rfl
  · rw [c1]
    by_cases c : (rdV p f V).1 = 0
    · rw [if_pos c, if_pos c, era_split hf, List.drop_append, l1, Nat.sub_self, List.drop_zero, List.drop_eq_nil_of_le (by omega), List.nil_append, hl]
    · rw [if_neg c, if_neg c, set_split hf, List.drop_append, l1, List.drop_eq_nil_of_le (by omega), List.nil_append, show p + 1 - p = 1 by omega]
      exact hl
/-- the files, once the hint of the one at i is gone -/
theorem op_hint {i : Nat} {f : AF} {V : VC} {l : List AF} (hS : SrtF V.1.1) (hd : V.1.1.drop i = f :: l) (h : HDl (f :: l)) : ∃ l2, (opDis f.1 1 V).1.1.drop i = f :: l2 ∧ HDl l2 ∧ totF l2 ≤ totF l ∧ SrtF (opDis f.1 1 V).1.1 ∧ (opDis f.1 1 V).2.1 = V.2.1 ∧ (opDis f.1 1 V).1.1.length ≤ V.1.1.length := by
  have hS2 : SrtF (opDis f.1 1 V).1.1 := by
    rw [opDis_files]
    exact srt_dis hS
  have hr : (opDis f.1 1 V).2.1 = V.2.1 := by
    rw [opDis_rest]
  cases hx : fndF f.1 1 V.1.1 with
  | none =>
    have e : (opDis f.1 1 V).1.1 = V.1.1 := by
      rw [opDis_files]
      unfold disF
      rw [hx]
    rw [e]
    exact ⟨l, hd, hd_tail1 h (hd_nohint hS hd h hx), Nat.le_refl _, hS, hr, Nat.le_refl _⟩
  | some x =>
    obtain ⟨l2, e1, e2⟩ := hd_hint hS hd h hx
    obtain ⟨hf, hl⟩ := drop_get hd
    have e : (opDis f.1 1 V).1.1 = V.1.1.eraseIdx (i + 1) := by
      rw [opDis_files]
      unfold disF
      rw [hx, e2]
    have hx1 : V.1.1[i + 1]? = some x := by
      rw [← e2]
      exact (fndF_some hx).1
    have hp := lt_of_some hx1
    have l1 : (V.1.1.take (i + 1)).length = i + 1 := by rw [List.length_take]; omega
    rw [e1] at h
    refine ⟨l2, ?_, (hd_tail2 h (fndF_some hx).2.2).2, ?_, hS2, hr, ?_⟩
    · rw [e, era_split hx1, take_snoc hf, List.append_assoc, List.drop_append, List.drop_eq_nil_of_le (by rw [List.length_take]; omega), List.nil_append, show i - (V.1.1.take i).length = 0 by rw [List.length_take]; omega, List.drop_zero]
      have := (drop_get (hl.trans e1)).2
      rw [this]
      rfl
    · rw [e1]
      show _ ≤ x.2.2.1.length + totF l2
      omega
    · rw [e, List.length_eraseIdx, if_pos hp]
      omega
theorem rdF_hint {t i : Nat} {f x : AF} {V : VC} (hf : V.1.1[i]? = some f) (h0 : f.2.1 = 0) (hg : ghF f V.1.1 = some x) : rdF (t + 1) i V = rdF t (i + 1) (rhL x.2.2.1 x.1 (x.2.2.1.length - 4) 20000 4 V) := by
  conv => lhs; unfold rdF
  rw [hf]
  dsimp only
  rw [if_neg (fun q => q h0), hg]
theorem rdF_data {t i : Nat} {f : AF} {V : VC} (hf : V.1.1[i]? = some f) (h0 : f.2.1 = 0) (hg : ghF f V.1.1 = none) : rdF (t + 1) i V = rdF t (if (rdV i f (opDis f.1 1 V)).1 = 0 then i else i + 1) (rdV i f (opDis f.1 1 V)).2 := by
  conv => lhs; unfold rdF
  rw [hf]
  dsimp only
  rw [if_neg (fun q => q h0), hg]
  dsimp only
  cases (rdV i f (opDis f.1 1 V)).1 <;> rfl
theorem rdF_skip {t i : Nat} {f : AF} {V : VC} (hf : V.1.1[i]? = some f) (h0 : ¬ f.2.1 = 0) : rdF (t + 1) i V = rdF t (i + 1) V := by
  conv => lhs; unfold rdF
  rw [hf]
  dsimp only
  rw [if_pos h0]
theorem rdF_end {t i : Nat} {V : VC} (h : V.1.1.length ≤ i) : rdF t i V = V := by
  cases t with
  | zero => rfl
  | succ t =>
    unfold rdF
    rw [List.getElem?_eq_none h]
theorem totF_drop {fs l : List AF} {i : Nat} {f : AF} (h : fs.drop i = f :: l) : totF (fs.drop i) = f.2.2.1.length + totF l := by
  rw [h]
  rfl
theorem mem_tot : ∀ {fs : List AF} {f : AF}, f ∈ fs → f.2.2.1.length ≤ totF fs
  | [], f, h => by cases h
  | x :: fs, f, h => by
    show _ ≤ x.2.2.1.length + totF fs
    rcases List.mem_cons.mp h with q | q
    · rw [q]
      omega
    · have := mem_tot q
      omega
/-- an opening's reading is in order -/
theorem rdOK_of : ∀ (N t i : Nat) (V : VC), t ≤ N → SrtF V.1.1 → SrtR V.2.1 → HDl (V.1.1.drop i) → (∀ v, v ∈ V.1.1 → v.2.2.1.length ≤ 19000) → 15 * V.2.1.length + totF (V.1.1.drop i) ≤ 17900 → rdOK t i V
  | _, 0, _, _, _, _, _, _, _, _ => trivial
  | 0, t + 1, _, _, h, _, _, _, _, _ => by omega
  | N + 1, t + 1, i, V, hN, hS, hR, hH, h19, hb => by
    unfold rdOK
    by_cases ci : i < V.1.1.length
    · obtain ⟨f, hf⟩ := some_of_lt ci
      have hd := drop_cons hf
      rw [hf]
      dsimp only
      rw [hd] at hH hb
      have h0 := hd_head hH
      have hb : 15 * V.2.1.length + (f.2.2.1.length + totF (V.1.1.drop (i + 1))) ≤ 17900 := hb
      rw [if_neg (fun q => q h0)]
      refine ⟨⟨hR, hS, h19⟩, ?_⟩
      cases hg : ghF f V.1.1 with
      | some x =>
        dsimp only
        obtain ⟨g1, g2⟩ := Option.filter_eq_some_iff.mp hg
        obtain ⟨l2, e1, e2⟩ := hd_hint hS hd hH g1
        have k1 := (fndF_some g1).2.2
        rw [e1] at hH hb
        obtain ⟨_, hH2⟩ := hd_tail2 hH k1
        have hb : 15 * V.2.1.length + (f.2.2.1.length + (x.2.2.1.length + totF l2)) ≤ 17900 := hb
        refine ⟨by omega, ?_⟩
        obtain ⟨g3, g4⟩ := ghi_d g2
        obtain ⟨b1, b2⟩ := rh_bnd x.2.2.1 x.1 (x.2.2.1.length - 4) (nI f.2.2.1.length) 20000 4 0 V g4 (by omega)
        have ea := rh_arr x.2.2.1 x.1 (x.2.2.1.length - 4) 20000 4 V
        have hx1 : V.1.1[i + 1]? = some x := by
          rw [← e2]
          exact (fndF_some g1).1
        cases t with
        | zero => trivial
        | succ t =>
          unfold rdOK
          rw [ea, hx1]
          dsimp only
          rw [if_pos (by rw [k1]; decide)]
          have ed : V.1.1.drop (i + 1 + 1) = l2 := (drop_get e1).2
          exact rdOK_of N t (i + 1 + 1) _ (by omega) (by rw [ea]; exact hS) (b2 hR) (by rw [ea, ed]; exact hH2) (by rw [ea]; exact h19) (by rw [ea, ed]; omega)
      | none =>
        dsimp only
        refine ⟨by omega, ?_⟩
        obtain ⟨l2, e1, e2, e3, e4, e5, e6⟩ := op_hint hS hd hH
        obtain ⟨r1, r2, r3, r4, r5, r6⟩ := rdV_files e4 e1 h0
        have fin : rdOK t (if (rdV i f (opDis f.1 1 V)).1 = 0 then i else i + 1) (rdV i f (opDis f.1 1 V)).2 := by
          refine rdOK_of N t _ _ (by omega) r1 (r5 (by rw [e5]; exact hR)) (by rw [r2]; exact e2) (fun v hv => ?_) (by rw [r2]; rw [e5] at r4; omega)
          rw [r6] at hv
          have sub : ∀ v, v ∈ (opDis f.1 1 V).1.1 → v.2.2.1.length ≤ 19000 := by
            intro v hv
            rw [opDis_files] at hv
            exact h19 v ((mem_disF hS).mp hv).1
          split at hv
          · exact sub v (List.mem_of_mem_eraseIdx hv)
          · rcases List.mem_or_eq_of_mem_set hv with q | q
            · exact sub v q
            · rw [q]
              show (f.2.2.1.take _).length ≤ _
              rw [List.length_take]
              omega
        cases hq : (rdV i f (opDis f.1 1 V)).1 with
        | zero =>
          rw [if_pos hq] at fin
          exact fin
        | succ n =>
          rw [if_neg (by omega)] at fin
          exact fin
    · rw [List.getElem?_eq_none (by omega)]
      trivial
