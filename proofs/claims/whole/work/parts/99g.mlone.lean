/-! the reference: lone hints -/
def kpH (fs : List AF) (f : AF) : Bool := !(decide (f.2.1 = 1) && (fndF f.1 0 fs).isNone)
def rlH : Nat → Nat → VC → VC
  | 0, _, V => V
  | t + 1, i, V => match V.1.1[i]? with
    | none => V
    | some f => match decide (f.2.1 = 1) && (fndF f.1 0 V.1.1).isNone with
      | true => rlH t i (opDis f.1 1 V)
      | false => rlH t (i + 1) V
theorem fnd_none {a b : Int32} {fs : List AF} (hS : SrtF fs) : (fndF a b fs).isNone = true ↔ ∀ f, f ∈ fs → ¬ (f.1 = a ∧ f.2.1 = b) := by
  cases h : fndF a b fs with
  | none =>
    refine ⟨fun _ f hf q => ?_, fun _ => rfl⟩
    obtain ⟨i, hi⟩ := List.mem_iff_getElem?.mp hf
    have := (fndF_at hS hi).1
    rw [q.1, q.2, h] at this
    cases this
  | some x =>
    obtain ⟨q1, q2, q3⟩ := fndF_some h
    exact ⟨fun q => (by cases q), fun q => absurd ⟨q2, q3⟩ (q x (List.mem_of_getElem? q1))⟩
theorem kpH_dis {a : Int32} {fs : List AF} (hS : SrtF fs) : kpH (disF a 1 fs) = kpH fs := by
  funext f
  unfold kpH
  congr 2
  rw [Bool.eq_iff_iff, fnd_none hS, fnd_none (srt_dis hS)]
  constructor
  · intro h x hx q
    refine h x ((mem_disF hS).mpr ⟨hx, fun c => ?_⟩) q
    rw [c.2] at q
    exact absurd q.2 (by decide)
  · intro h x hx
    exact h x ((mem_disF hS).mp hx).1
theorem dis_at {fs : List AF} {i : Nat} {f : AF} (hS : SrtF fs) (hf : fs[i]? = some f) : disF f.1 f.2.1 fs = fs.eraseIdx i := by
  obtain ⟨e1, e2⟩ := fndF_at hS hf
  unfold disF
  rw [e1, e2]
theorem era_split {α : Type} {l : List α} {i : Nat} {x : α} (h : l[i]? = some x) : l.eraseIdx i = l.take i ++ l.drop (i + 1) := by
  rw [List.eraseIdx_eq_take_drop_succ]
theorem dlH_eq : ∀ (i : Nat) (V : VC), i ≤ V.1.1.length → SrtF V.1.1 → (dlH i V).1.1 = (V.1.1.take i).filter (kpH V.1.1) ++ V.1.1.drop i ∧ (dlH i V).2 = (V.2.1, V.2.2.1, (V.2.2.2.1.1, V.2.2.2.1.2.1, V.2.2.2.1.2.2.1, V.2.2.2.1.2.2.2.1 + nI (V.1.1.length - (dlH i V).1.1.length), V.2.2.2.1.2.2.2.2), V.2.2.2.2) ∧ (dlH i V).1.1.length ≤ V.1.1.length
  | 0, V, _, _ => by
    have e : (dlH 0 V).1.1 = V.1.1 := rfl
    refine ⟨by rw [e]; rfl, ?_, Nat.le_refl _⟩
    rw [e, Nat.sub_self]
    have : V.2.2.2.1.2.2.2.1 + nI 0 = V.2.2.2.1.2.2.2.1 := Int32.add_zero _
    rw [this]
    rfl
  | i + 1, V, hi, hS => by
    obtain ⟨f, hf⟩ := some_of_lt (show i < V.1.1.length by omega)
    have l1 : (V.1.1.take i).length = i := by rw [List.length_take]; omega
    cases hc : (decide (f.2.1 = 1) && (fndF f.1 0 V.1.1).isNone) with
    | false =>
      have e : dlH (i + 1) V = dlH i V := by
        conv => lhs; unfold dlH
        rw [hf]
        dsimp only
        rw [hc]
      rw [e]
      obtain ⟨h1, h2, h3⟩ := dlH_eq i V (by omega) hS
      refine ⟨?_, h2, h3⟩
      have hk : kpH V.1.1 f = true := by
        unfold kpH
        rw [hc]
        rfl
      rw [h1, take_snoc hf, List.filter_append, List.filter_cons, if_pos hk, List.filter_nil, List.append_assoc, drop_cons hf]
      rfl
    | true =>
      have e : dlH (i + 1) V = dlH i (opDis f.1 1 V) := by
        conv => lhs; unfold dlH
        rw [hf]
        dsimp only
        rw [hc]
      have k1 : f.2.1 = 1 := of_decide_eq_true (Bool.and_eq_true_iff.mp hc).1
      have ed : disF f.1 1 V.1.1 = V.1.1.take i ++ V.1.1.drop (i + 1) := by
        have := dis_at hS hf
        rw [k1] at this
        rw [this, era_split hf]
      have fsome : (fndF f.1 1 V.1.1).isSome = true := by
        have := (fndF_at hS hf).1
        rw [k1] at this
        rw [this]
        rfl
      have lV : (opDis f.1 1 V).1.1.length = V.1.1.length - 1 := by
        rw [opDis_files, ed, List.length_append, l1, List.length_drop]
        omega
      have hS' : SrtF (opDis f.1 1 V).1.1 := by
        rw [opDis_files]
        exact srt_dis hS
      obtain ⟨h1, h2, h3⟩ := dlH_eq i (opDis f.1 1 V) (by omega) hS'
      rw [e]
      have hk : kpH V.1.1 f = false := by
        unfold kpH
        rw [hc]
        rfl
      refine ⟨?_, ?_, by omega⟩
      · rw [h1, opDis_files, kpH_dis hS, ed, List.take_append, List.drop_append, l1, Nat.sub_self, List.take_zero, List.append_nil, List.take_of_length_le (show (V.1.1.take i).length ≤ i by omega), List.drop_eq_nil_of_le (show (V.1.1.take i).length ≤ i by omega), List.nil_append, List.drop_zero, take_snoc hf, List.filter_append, List.filter_cons, if_neg (by rw [hk]; decide), List.filter_nil, List.append_nil]
      · rw [h2, opDis_rest, fsome, lV]
        dsimp only
        have : V.2.2.2.1.2.2.2.1 + (if true = true then 1 else 0) + nI (V.1.1.length - 1 - (dlH i (opDis f.1 1 V)).1.1.length) = V.2.2.2.1.2.2.2.1 + nI (V.1.1.length - (dlH i (opDis f.1 1 V)).1.1.length) := by
          rw [if_pos rfl, Int32.add_assoc, Int32.add_comm 1, nI_1]
          congr 2
          omega
        rw [this]
theorem rlH_eq : ∀ (t i : Nat) (V : VC), i ≤ V.1.1.length → V.1.1.length - i ≤ t → SrtF V.1.1 → (rlH t i V).1.1 = V.1.1.take i ++ (V.1.1.drop i).filter (kpH V.1.1) ∧ (rlH t i V).2 = (V.2.1, V.2.2.1, (V.2.2.2.1.1, V.2.2.2.1.2.1, V.2.2.2.1.2.2.1, V.2.2.2.1.2.2.2.1 + nI (V.1.1.length - (rlH t i V).1.1.length), V.2.2.2.1.2.2.2.2), V.2.2.2.2) ∧ (rlH t i V).1.1.length ≤ V.1.1.length
  | 0, i, V, hi, ht, _ => by
    have e : (rlH 0 i V).1.1 = V.1.1 := rfl
    have ei : i = V.1.1.length := by omega
    refine ⟨by rw [e, ei, List.take_length, List.drop_length, List.filter_nil, List.append_nil], ?_, Nat.le_refl _⟩
    rw [e, Nat.sub_self]
    have : V.2.2.2.1.2.2.2.1 + nI 0 = V.2.2.2.1.2.2.2.1 := Int32.add_zero _
    rw [this]
    rfl
  | t + 1, i, V, hi, ht, hS => by
    by_cases ci : i < V.1.1.length
    · obtain ⟨f, hf⟩ := some_of_lt ci
      have l1 : (V.1.1.take i).length = i := by rw [List.length_take]; omega
      cases hc : (decide (f.2.1 = 1) && (fndF f.1 0 V.1.1).isNone) with
      | false =>
        have e : rlH (t + 1) i V = rlH t (i + 1) V := by
          conv => lhs; unfold rlH
          rw [hf]
          dsimp only
          rw [hc]
        rw [e]
        obtain ⟨h1, h2, h3⟩ := rlH_eq t (i + 1) V (by omega) (by omega) hS
        refine ⟨?_, h2, h3⟩
        have hk : kpH V.1.1 f = true := by
          unfold kpH
          rw [hc]
          rfl
        rw [h1, take_snoc hf, drop_cons hf, List.filter_cons, if_pos hk, List.append_assoc]
        rfl
      | true =>
        have e : rlH (t + 1) i V = rlH t i (opDis f.1 1 V) := by
          conv => lhs; unfold rlH
          rw [hf]
          dsimp only
          rw [hc]
        have k1 : f.2.1 = 1 := of_decide_eq_true (Bool.and_eq_true_iff.mp hc).1
        have ed : disF f.1 1 V.1.1 = V.1.1.take i ++ V.1.1.drop (i + 1) := by
          have := dis_at hS hf
          rw [k1] at this
          rw [this, era_split hf]
        have fsome : (fndF f.1 1 V.1.1).isSome = true := by
          have := (fndF_at hS hf).1
          rw [k1] at this
          rw [this]
          rfl
        have lV : (opDis f.1 1 V).1.1.length = V.1.1.length - 1 := by
          rw [opDis_files, ed, List.length_append, l1, List.length_drop]
          omega
        have hS' : SrtF (opDis f.1 1 V).1.1 := by
          rw [opDis_files]
          exact srt_dis hS
        obtain ⟨h1, h2, h3⟩ := rlH_eq t i (opDis f.1 1 V) (by omega) (by omega) hS'
        rw [e]
        have hk : kpH V.1.1 f = false := by
          unfold kpH
          rw [hc]
          rfl
        refine ⟨?_, ?_, by omega⟩
        · rw [h1, opDis_files, kpH_dis hS, ed, List.take_append, List.drop_append, l1, Nat.sub_self, List.take_zero, List.append_nil, List.take_of_length_le (show (V.1.1.take i).length ≤ i by omega), List.drop_eq_nil_of_le (show (V.1.1.take i).length ≤ i by omega), List.nil_append, List.drop_zero, drop_cons hf, List.filter_cons, if_neg (by rw [hk]; decide)]
        · rw [h2, opDis_rest, fsome, lV]
          dsimp only
          have : V.2.2.2.1.2.2.2.1 + (if true = true then 1 else 0) + nI (V.1.1.length - 1 - (rlH t i (opDis f.1 1 V)).1.1.length) = V.2.2.2.1.2.2.2.1 + nI (V.1.1.length - (rlH t i (opDis f.1 1 V)).1.1.length) := by
            rw [if_pos rfl, Int32.add_assoc, Int32.add_comm 1, nI_1]
            congr 2
            omega
          rw [this]
    · have e : rlH (t + 1) i V = V := by
        conv => lhs; unfold rlH
        rw [List.getElem?_eq_none (by omega)]
      have ei : i = V.1.1.length := by omega
      rw [e]
      refine ⟨by rw [ei, List.take_length, List.drop_length, List.filter_nil, List.append_nil], ?_, Nat.le_refl _⟩
      rw [Nat.sub_self]
      have : V.2.2.2.1.2.2.2.1 + nI 0 = V.2.2.2.1.2.2.2.1 := Int32.add_zero _
      rw [this]
section
variable {m : Nat} {g : Gh} {S : MS} {α : Type} {rs : List AR} {fs : List AF} {ps : List AV} {V : VC}
theorem OR_eq {V' : VC} (h : OR S V) (h1 : V'.1.1 = V.1.1) (h2 : V'.2 = V.2) : OR S V' := by
  unfold OR
  rw [h1, h2]
  exact h
theorem m_loneHints {k : Unit → M α} {Q : α → MS → Prop} (hM : Mk m g) (hO : OR S V) (h : ∀ S', OR S' (dlH V.1.1.length V) → mfr [4, 8, 12, 22] [1, 2, 3, 4, 5, 6, 7] S S' → okM m g (k ()) S' Q) : okM m g (bd (X9_loneHints m) k) S Q := by
  refine oM_bd ?_
  have hl := hO.1.1.2.2.2
  have : FU = 1000000 := rfl
  obtain ⟨a1, a2, a3⟩ := dlH_eq V.1.1.length V (Nat.le_refl _) hO.2.2.1
  obtain ⟨b1, b2, b3⟩ := rlH_eq V.1.1.length 0 V (Nat.zero_le _) (by omega) hO.2.2.1
  have ef : (dlH V.1.1.length V).1.1 = (rlH V.1.1.length 0 V).1.1 := by
    rw [a1, b1, List.take_length, List.drop_length, List.append_nil, List.take_zero, List.drop_zero, List.nil_append]
  have loop : ∀ (w t i : Nat) (S1 : MS) (V1 : VC), V1.1.1.length - i < w → V1.1.1.length - i ≤ t → i ≤ V1.1.1.length → OR S1 V1 → mfr [4, 8, 12, 22] [1, 2, 3, 4, 5, 6, 7] S S1 → rlH t i V1 = rlH V.1.1.length 0 V → okM m g (X9_loneHints_b2 w m (nI i)) S1 (fun v S2 => okM m g (k v) S2 Q) := by
    intro w
    induction w with
    | zero => intro t i S1 V1 h; omega
    | succ w ih =>
      intro t i S1 V1 hw ht hi O1 f1 er
      show okM m g (X9_loneHints_b2b (X9_loneHints_b2 w) m (nI i)) S1 _
      unfold X9_loneHints_b2b X9_loneHints_b38
      have hl1 := O1.1.1.2.2.2
      refine oM_gI hM ?_
      rw [O1.1.1.1]
      by_cases c : i < V1.1.1.length
      · obtain ⟨f, hf⟩ := some_of_lt c
        obtain ⟨n1, n2, n3⟩ := rf_n O1.1 hf
        obtain ⟨t, rfl⟩ : ∃ t', t = t' + 1 := ⟨t - 1, by omega⟩
        have skip : (decide (f.2.1 = 1) && (fndF f.1 0 V1.1.1).isNone) = false → okM m g (X9_loneHints_b39 (X9_loneHints_b2 w) m (nI i) 0) S1 (fun v S2 => okM m g (k v) S2 Q) := by
          intro hc
          unfold X9_loneHints_b39 X9_loneHints_b61
          refine oM_itT rfl ?_
          rw [nI_1]
          refine ih t (i + 1) S1 V1 (by omega) (by omega) (by omega) O1 f1 ?_
          rw [← er]
          conv => rhs; unfold rlH
          rw [hf]
          dsimp only
          rw [hc]
        have goes : f.2.1 = 1 → (decide (f.2.1 = 1) && (fndF f.1 0 V1.1.1).isNone) = true → okM m g (X9_loneHints_b39 (X9_loneHints_b2 w) m (nI i) 1) S1 (fun v S2 => okM m g (k v) S2 Q) := by
          intro k1 hc
          unfold X9_loneHints_b39 X9_loneHints_b61
          refine oM_itF (by decide) (oM_gR hM (oM_al (q := 2) hM rfl n1 (oM_ck hM (m_odis hM O1 (fun S2 O2 f2 => ?_)))))
          have lV : (opDis f.1 1 V1).1.1.length = V1.1.1.length - 1 := by
            have := dis_at O1.2.2.1 hf
            rw [k1] at this
            rw [opDis_files, this, List.length_eraseIdx, if_pos c]
          refine ih t i S2 _ (by omega) (by omega) (by omega) O2 (mfr_tr f1 f2) ?_
          rw [← er]
          conv => rhs; unfold rlH
          rw [hf]
          dsimp only
          rw [hc]
        refine oM_itF (nI_ge c (by omega)) (oM_gR hM (oM_al (q := 3) hM rfl n2 ?_))
        by_cases k1 : f.2.1 = 1
        · refine oM_itF (fun q => q k1) (oM_gR hM (oM_al (q := 2) hM rfl n1 (oM_ck hM (m_fileAt hM O1.1 O1.2.2.1 (fun x hx => ?_) (fun hx => ?_)))))
          · have := lt_of_some (fndF_some hx).1
            exact oM_itT (nI_pos' (by omega)) (skip (by rw [hx]; simp))
          · exact oM_itF (by decide) (goes k1 (by rw [hx, decide_eq_true k1]; rfl))
        · exact oM_itT k1 (skip (by rw [decide_eq_false k1]; rfl))
      · have e : rlH t i V1 = V1 := by
          cases t with
          | zero => rfl
          | succ t =>
            conv => lhs; unfold rlH
            rw [List.getElem?_eq_none (by omega)]
        rw [e] at er
        refine oM_itT (nI_le (by omega) (by omega)) (oM_pu (h S1 (OR_eq O1 ?_ ?_) f1))
        · rw [ef, er]
        · rw [a2, ef, er, b2]
  exact loop FU V.1.1.length 0 S V (by omega) (by omega) (Nat.zero_le _) hO mfr_refl rfl
end
