/-! the files' order -/
def ltF (a b : Int32) (f : AF) : Prop := a < f.1 ∨ (a = f.1 ∧ b < f.2.1)
theorem ltF_trans {a b : Int32} {f f' : AF} (h : ltF a b f) (h2 : ltF f.1 f.2.1 f') : ltF a b f' := by
  unfold ltF at *
  simp only [Int32.lt_iff_toInt_lt, ← Int32.toInt_inj] at *
  omega
theorem plF_before {a b : Int32} : ∀ (fs : List AF) (i : Nat) (f : AF), i < plF a b fs → fs[i]? = some f → ltF f.1 f.2.1 (a, b, [], 0, 0)
  | [], i, f, h, _ => absurd h (Nat.not_lt_zero i)
  | x :: fs, i, f, h, hf => by
    unfold plF at h
    split at h
    · exact absurd h (Nat.not_lt_zero i)
    · rename_i hc
      cases i with
      | zero =>
        simp only [List.getElem?_cons_zero] at hf
        cases hf
        unfold ltF
        simp only
        simp only [Int32.lt_iff_toInt_lt, ← Int32.toInt_inj] at *
        omega
      | succ i =>
        simp only [List.getElem?_cons_succ] at hf
        exact plF_before fs i f (by omega) hf
theorem plF_at {a b : Int32} : ∀ (fs : List AF) (f : AF), fs[plF a b fs]? = some f → a < f.1 ∨ (f.1 = a ∧ ¬ f.2.1 < b)
  | [], f, h => by cases h
  | x :: fs, f, h => by
    unfold plF at h
    split at h
    · rename_i hc
      simp only [List.getElem?_cons_zero] at h
      cases h
      exact hc
    · simp only [List.getElem?_cons_succ] at h
      exact plF_at fs f h
theorem srt_ins {fs : List AF} {a b : Int32} {x : AF} (h : SrtF fs) (hx : x.1 = a ∧ x.2.1 = b) (hn : ∀ f, fs[plF a b fs]? = some f → ¬ (f.1 = a ∧ f.2.1 = b)) : SrtF (insF (plF a b fs) x fs) := by
  have hp := plF_le a b fs
  have hs := List.pairwise_iff_getElem.mp h
  have after : ∀ y, y ∈ fs.drop (plF a b fs) → ltF a b y := by
    intro y hy
    obtain ⟨j, hj⟩ := List.mem_iff_getElem?.mp hy
    rw [List.getElem?_drop] at hj
    have lj := lt_of_some hj
    have at0 : ∃ f, fs[plF a b fs]? = some f := some_of_lt (by omega)
    obtain ⟨f, hf⟩ := at0
    have h1 := plF_at fs f hf
    have h2 := hn f hf
    have h3 : ltF a b f := by
      unfold ltF
      simp only [Int32.lt_iff_toInt_lt, ← Int32.toInt_inj] at *
      omega
    cases j with
    | zero =>
      rw [Nat.add_zero, hf] at hj
      cases hj
      exact h3
    | succ j =>
      have l0 := lt_of_some hf
      have := hs (plF a b fs) (plF a b fs + (j + 1)) l0 lj (by omega)
      rw [List.getElem?_eq_getElem l0] at hf
      rw [List.getElem?_eq_getElem lj] at hj
      rw [Option.some.inj hf, Option.some.inj hj] at this
      exact ltF_trans h3 this
  have before : ∀ y, y ∈ fs.take (plF a b fs) → ltF y.1 y.2.1 (a, b, [], 0, 0) := by
    intro y hy
    obtain ⟨j, hj⟩ := List.mem_iff_getElem?.mp hy
    rw [List.getElem?_take] at hj
    split at hj
    · exact plF_before fs j y (by assumption) hj
    · cases hj
  unfold SrtF insF
  rw [List.pairwise_append, List.pairwise_cons]
  refine ⟨h.sublist (List.take_sublist _ _), ⟨?_, h.sublist (List.drop_sublist _ _)⟩, ?_⟩
  · intro y hy
    rw [hx.1, hx.2]
    exact after y hy
  · intro y hy w hw
    have h1 := before y hy
    rw [List.mem_cons] at hw
    rcases hw with q | q
    · rw [q, hx.1, hx.2]
      exact h1
    · exact ltF_trans h1 (after w q)
/-- n bytes come to the end of the file (a, b), which is there with them -/
def appF (a b : Int32) (part : List Int32) (fs : List AF) (sv : List Nat) : List AF × List Nat × Nat := match (fs[plF a b fs]?).filter (isF a b) with
  | some f => (fs.set (plF a b fs) (upF part f), sv, grw f.2.2.2.1 (f.2.2.1.length + part.length))
  | none => (insF (plF a b fs) (upF part (a, b, [], lastC sv, 0)) fs, sv.dropLast, grw (lastC sv) part.length)
section
variable {n : Nat} {g g' : Gh} {α : Type} {Q : α → Gh → Prop}
theorem ok_append {a b : Int32} {c f m : Nat} {x y : Int32} {k : Unit → M α} (hC : Cs n g) (hD : DI n g) (hA : AvI n g) (hS : SrtF (FV n g)) (hc : qk g c = 5) (hc1 : ∀ d, d ∈ qL g (n + 11) → c ≠ d + 1) (hc2 : ∀ d, fnd n g a b = some d → c ≠ d + 1) (hx : x = nI f) (hy : y = nI m) (hl : f + m ≤ (qB g c).length) (h6 : ∀ v, v ∈ FV n g → v.2.2.1.length + m ≤ 30000) (h7 : m ≤ 30000) (h10 : (qL g (n + 10)).length ≤ 30000) (h12 : (qL g (n + 12)).length < 30000)
    (hk : ∀ g', App n g g' (appF a b (((qB g c).drop f).take m) (FV n g) (SV n g)).2.2 (appF a b (((qB g c).drop f).take m) (FV n g) (SV n g)).1 (appF a b (((qB g c).drop f).take m) (FV n g) (SV n g)).2.1 (noteA a b (nI m) (AIV n g)) → ok (k ()) g' Q) : ok (bd (X3_append (n + 9) a b c x y) k) g Q := by
  refine ok_nz (fun hz => ok_len hC (fun hl60 => ok_bd ?_))
  have hpl : (((qB g c).drop f).take m).length = m := by rw [List.length_take, List.length_drop]; omega
  generalize hpt : ((qB g c).drop f).take m = part at *
  unfold X3_append
  refine ok_ck (cs_disk hC) (ok_placeFor hC hD (ok_ck (cs_disk hC) (ok_at hC hD ?_)))
  have hp := plF_le a b (FV n g)
  rw [fv_len] at hp
  rw [oat_nI (by omega)]
  have new : (∀ d, (qL g (n + 10))[plF a b (FV n g)]? = some d → ¬ (qi g 701 d = a ∧ qi g 702 d = b)) → ok (X3_append_b31 (n + 9) a b c x y (nI (plF a b (FV n g)))) g (fun v g1 => ok (k v) g1 Q) := by
    intro hno
    have hno2 : ∀ w, (FV n g)[plF a b (FV n g)]? = some w → ¬ (w.1 = a ∧ w.2.1 = b) := by
      intro w hw
      unfold FV at hw
      rw [List.getElem?_map] at hw
      cases hd : (qL g (n + 10))[plF a b (FV n g)]? with
      | none =>
        unfold FV at hd
        rw [hd] at hw
        cases hw
      | some d =>
        have := hno d hd
        unfold FV at hd
        rw [hd] at hw
        cases hw
        exact this
    have enone : ((FV n g)[plF a b (FV n g)]?).filter (isF a b) = none := by
      cases hw : (FV n g)[plF a b (FV n g)]? with
      | none => rfl
      | some w =>
        have := hno2 w hw
        simp only [Option.filter_some]
        rw [if_neg]
        unfold isF
        simpa using this
    unfold appF at hk
    rw [enone] at hk
    refine ok_b31 hC hD hA rfl hp h10 (fun gi d hi => ok_tail ?_)
    obtain ⟨i1, i2, i3, i4, i5, i6, i7, i8, i9, i10, i11⟩ := hi
    have hCi := cs_fra hC i1.1 hz
    have hS2 : SrtF (FV n gi) := by
      rw [i4]
      exact srt_ins hS ⟨rfl, rfl⟩ hno2
    have hlp : ((qL g (n + 10)).take (plF a b (FV n g))).length = plF a b (FV n g) := by rw [List.length_take]; omega
    have hdi : (qL gi (n + 10))[plF a b (FV n g)]? = some d := by
      rw [i3, List.getElem?_append_right (by omega), hlp, Nat.sub_self]
      rfl
    have hfi := fv_at hdi
    have hlp2 : ((FV n g).take (plF a b (FV n g))).length = plF a b (FV n g) := by rw [List.length_take, fv_len]; omega
    have hfd : fvw gi d = (a, b, [], lastC (SV n g), 0) := by
      rw [i4] at hfi
      unfold insF at hfi
      rw [List.getElem?_append_right (by omega), hlp2, Nat.sub_self] at hfi
      exact (Option.some.inj hfi).symm
    have hB : qB gi c = qB g c := i10 c hc hc1
    have hfB : qB gi (d + 1) = [] := congrArg (fun v : AF => v.2.2.1) hfd
    have hfC : qC gi (d + 1) = lastC (SV n g) := congrArg (fun v : AF => v.2.2.2.1) hfd
    have hf1 : qi gi 701 d = a := congrArg (fun v : AF => v.1) hfd
    have hf2 : qi gi 702 d = b := congrArg (fun v : AF => v.2.1) hfd
    have hcd : c ≠ d + 1 := by
      rcases i11.2 with q | q
      · exact hc1 d q
      · have := hz c (by omega)
        omega
    refine ok_b60 hCi i1.2.2 i2 hS2 hdi (fra_k i1.1 hz hc (by decide)) hcd hx hy (by rw [hB]; exact hl) (by rw [hfB]; simp; omega) (by rw [i8]; exact h12) (fun g' ha => ok_pu (hk g' ?_))
    obtain ⟨a1, a2, a3, a4, a5, a6, a7⟩ := ha
    refine ⟨⟨frD_trans i1.1 a1.1, ?_, a1.2.2⟩, a2, ?_, a4.trans i5, a5.trans i6, ?_, ?_⟩
    · have := acc_trans i1.2.1 a1.2.1
      rw [hfB, hfC, Nat.zero_add] at this
      simp only [List.length_nil, Nat.zero_add] at this
      rw [hpl]
      exact this
    · rw [a3, i4, hB, hpt, hfd]
      unfold insF
      rw [List.set_append_right _ _ (by omega), hlp2, Nat.sub_self]
      rfl
    · rw [a6, hf1, hf2, i7]
    · rw [i8, i9] at a7
      exact a7
  cases hd : (qL g (n + 10))[plF a b (FV n g)]? with
  | none => exact new (fun d q => by rw [hd] at q; cases q)
  | some d =>
    have hdk := di_at hD hd
    refine ok_ck hdk.1 (ok_isOf hdk ?_)
    by_cases hc0 : qi g 701 d = a ∧ qi g 702 d = b
    · rw [if_pos hc0]
      have hfn : fnd n g a b = some d := by
        unfold fnd
        rw [hd]
        simp only
        rw [if_pos hc0]
      have esome : ((FV n g)[plF a b (FV n g)]?).filter (isF a b) = some (fvw g d) := by
        rw [fv_at hd]
        simp only [Option.filter_some]
        rw [if_pos]
        unfold isF fvw
        simpa using hc0
      unfold appF at hk
      rw [esome] at hk
      have hmem : fvw g d ∈ FV n g := List.mem_of_getElem? (fv_at hd)
      refine ok_itT (by decide) (ok_tail (ok_b60 hC hD hA hS hd hc (hc2 d hfn) hx hy hl (h6 _ hmem) h12 (fun g' ha => ok_pu (hk g' ?_))))
      rw [hpt, hc0.1, hc0.2] at ha
      have e1 : (fvw g d).2.2.2.1 = qC g (d + 1) := rfl
      have e2 : (fvw g d).2.2.1 = qB g (d + 1) := rfl
      rw [hpl]
      exact ha
    · rw [if_neg hc0]
      refine ok_itF (fun q => q rfl) (new (fun e q => ?_))
      rw [hd] at q
      cases q
      exact hc0
end
