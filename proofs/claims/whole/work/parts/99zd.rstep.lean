/-! class and reference: a merge's steps -/
theorem itU_succ : ∀ (j : Nat) (V : VC), (itU (j + 1) V).1 = (duV (itU j V).1).1
  | 0, _ => rfl
  | j + 1, V => itU_succ j (duV V).1
section
variable {m : Nat} {g : Gh} {S : MS} {α : Type} {t : Nat} {V : VC} {ps : List AV} {C : Int}
theorem relB_mono {t' : Nat} {C' : Int} (h : RelB t C V S ps) (ht : t ≤ t') (hC : C ≤ C') : RelB t' C' V S ps := by
  obtain ⟨⟨a1, a2, a3, a4, a5, a6, a7, a8⟩, b⟩ := h
  exact ⟨⟨a1, a2, a3, ⟨a4.1, by have := a4.2; omega⟩, a5, a6, a7, by have := a8.1; omega, a8.2⟩, b⟩
theorem units_all (hM : Mk m g) (ht : t ≤ 512) (hCb : C ≤ 1000000) : ∀ (j : Nat) (V : VC) (S : MS) (ps : List AV), RelB t C V S ps → V.1.2.2.2.2.2.toInt + uM V ≤ C → j ≤ uN V → (∃ h, Abs h (mset g m S)) → allU j V
  | 0, _, _, _, _, _, _, _ => trivial
  | j + 1, V, S, ps, h, hmu, hj, ⟨hp, hA⟩ => by
    obtain ⟨u, hu⟩ : ∃ u, uN V = u + 1 := ⟨uN V - 1, by omega⟩
    obtain ⟨_, g1, g2, g3, g4⟩ := u_step (α := Unit) hM h ht hCb hmu hu
    refine ⟨g1, ?_⟩
    have ho := g4 (fun _ => pu ()) (fun _ S' => ∃ ps', RelB t C (duV V).1 S' ps') (fun S' ps' hr _ => oM_pu ⟨ps', hr⟩)
    obtain ⟨v, h', g', _, hA', S', e, ps', hr⟩ := ho hp hA
    rw [e] at hA'
    exact units_all hM ht hCb j (duV V).1 S' ps' hr g2 (by omega) ⟨h', hA'⟩
theorem uN_le (h : RelB t C V S ps) : uN V ≤ 4000 ∧ uM V ≤ 1200 := by
  have h1 := h.2.1.2.2.2.2.1.1.2
  have h2 := h.1.1.2.2.1
  have h3 := List.length_filter_le (fun r : AR => decide (r.2.1 < V.2.2.1.2.1)) V.2.1
  have h4 : (inpL V.2.2.1.2.1 V.1.1).length ≤ V.1.1.length := by
    unfold inpL
    exact Nat.le_trans dNum_len (List.length_filter_le _ _)
  constructor
  · unfold uN
    split
    · omega
    · split <;> omega
  · unfold uM
    split
    · omega
    · split <;> omega
theorem rel_mu (h : Rel t V S ps) : RelB t (1 + 1300 * (t : Int) + 1200) V S ps ∧ V.1.2.2.2.2.2.toInt + uM V ≤ 1 + 1300 * (t : Int) + 1200 := by
  have h1 := (uN_le h).2
  have h2 := h.1.2.2.2.1.2
  exact ⟨relB_mono h (Nat.le_refl _) (by omega), by omega⟩
theorem r_mergeStep {n : Int32} {k : Int32 → M α} {Q : α → MS → Prop} (hM : Mk m g) (h : Rel t V S ps) (ht : t ≤ 512) (hk : ∀ S' ps', Rel (t + 1) (sMStep n V).2.1 S' ps' → S'.1 0 = th2 (fun j => if j = 1 then 1 else 2) (sMStep n V).1 → okM m g (k (vl (sMStep n V).1)) S' Q) : okM m g (bd (X9_mergeStep m n) k) S Q := by
  have e23 := h.2.1.1.1.2.2.2.2.2
  have hcond : (S.1 23 = 0 ∨ S.1 34 = 0) ↔ (V.2.2.2.2.1.1 = 0 ∨ V.2.2.1.1 = 0) := by
    rw [e23]
    have : S.1 34 = 0 ↔ V.2.2.1.1 = 0 := by
      rcases h.2.2.2 with d | d | d
      · rw [d.1, d.2.1]
      · rw [d.1, d.2.2.1]
      · rw [d.1, d.2.2.1]
        decide
    rw [this]
  unfold sMStep at hk
  refine m_mergeStep hM (fun c => ?_) (fun c c2 => ?_) (fun c c2 => ?_)
  · rw [if_pos (hcond.mp c)] at hk
    exact hk _ ps (rel_t (rel_0 h) (by omega)) rfl
  · rw [if_neg (fun q => c (hcond.mpr q)), if_pos c2] at hk
    exact hk _ ps (rel_t (rel_0 h) (by omega)) rfl
  · rw [if_neg (fun q => c (hcond.mpr q)), if_neg c2] at hk
    obtain ⟨hB, hmu⟩ := rel_mu (rel_0 (v := 0) h)
    obtain ⟨u4, _⟩ := uN_le hB
    have c2' := c2
    rw [Int32.lt_iff_toInt_lt, li1] at c2'
    have en : n = nI n.toNatClampNeg := nI_cl (by rw [Int32.lt_iff_toInt_lt, Int32.toInt_zero]; omega)
    have enN : n.toNatClampNeg = n.toInt.toNat := rfl
    have hn31 : n.toInt < 2 ^ 31 := Int32.toInt_lt _
    have emin : (imn n (sUnits V)).toNatClampNeg = min n.toNatClampNeg (uN V) := by
      rw [sU_uN]
      have cl : (nI (uN V)).toNatClampNeg = uN V := by
        show (nI _).toInt.toNat = _
        rw [nI_toInt (by omega)]
        rfl
      unfold imn
      by_cases z : nI (uN V) < n
      · rw [if_pos z, cl]
        rw [Int32.lt_iff_toInt_lt, nI_toInt (by omega)] at z
        omega
      · rw [if_neg z]
        rw [Int32.lt_iff_toInt_lt, nI_toInt (by omega)] at z
        omega
    rw [emin] at hk
    have : FU = 1000000 := rfl
    rw [en]
    refine m_stepLoop (N := n.toNatClampNeg) (U := uN V) (P := fun j S => ∃ ps', RelB t (1 + 1300 * (t : Int) + 1200) (itU j V).1 S ps' ∧ (itU j V).1.1.2.2.2.2.2.toInt + uM (itU j V).1 ≤ 1 + 1300 * (t : Int) + 1200 ∧ uN (itU j V).1 = uN V - j ∧ S.1 0 = 0) hM (by omega) (by omega) (fun j S1 hj hp => ?_) (fun S1 hp => ?_) (fun S1 hp => ?_) FU 0 _ (by omega) (Nat.zero_le _) ⟨ps, hB, hmu, rfl, rfl⟩
    · obtain ⟨ps', p1, p2, p3, p4⟩ := hp
      obtain ⟨g1, g2, g3, g4, g5⟩ := u_step (α := Int32) (u := uN V - (j + 1)) hM p1 ht (by omega) p2 (by omega)
      refine ⟨g1, fun k' Q' hk' => g5 k' Q' (fun S' ps2 hr h00 => hk' S' ⟨ps2, ?_, ?_, ?_, h00.trans p4⟩)⟩
      · rw [itU_succ]
        exact hr
      · rw [itU_succ]
        exact g3
      · rw [itU_succ]
        exact g4
    · obtain ⟨ps', p1, p2, p3, p4⟩ := hp
      rw [Nat.sub_self] at p3
      generalize (itU (uN V) V).1 = W at p1 p3
      rcases p1.2.2.2 with d | d | d
      · rw [d.2.1]
        decide
      · exfalso
        unfold uN at p3
        rw [if_neg (by rw [d.1]; decide), if_neg (fun q => q d.2.1)] at p3
        omega
      · exfalso
        unfold uN at p3
        rw [if_neg (by rw [d.1]; decide), if_pos d.2.1] at p3
        omega
    · obtain ⟨ps', p1, p2, p3, p4⟩ := hp
      unfold X9_mergeStep_b65
      refine oM_ck hM ?_
      have fin : ∀ ms nl, (S1.1 34 ≠ 0 → S1.1 34 ≠ 2 → RepL S1 ms ∧ S1.1 43 = nI nl ∧ nl ≤ ms.length) → (M1 (itU (min n.toNatClampNeg (uN V)) V).1 S1 → RepL S1 ms ∧ S1.1 43 = nI nl ∧ LV (itU (min n.toNatClampNeg (uN V)) V).1.2.2.1.2.1 (itU (min n.toNatClampNeg (uN V)) V).1.2.1 ms nl) → okM m g (bd (X9_unitsLeft m) (fun x1 => pu x1)) S1 (fun v S1 => okM m g (k v) S1 Q) := by
        intro ms nl hL hL2
        refine m_unitsLeft (ms := ms) (nl := nl) hM p1.2.1.2.2.2.2.1 hL (oM_pu ?_)
        rw [units_eq p1 hL2]
        exact hk S1 ps' (relB_mono p1 (by omega) (by omega)) p4
      rcases p1.2.2.2 with d | d | d
      · exact fin [] 0 (fun q => absurd d.2.1 q) (fun q => absurd d.1 (by rw [q.1]; decide))
      · obtain ⟨a1, a2, a3, a4, a5, a6, ms, nl, os, R, ⟨b1, b2, b3, b4⟩, _⟩ := d
        exact fin ms nl (fun _ _ => ⟨b1, b2, b3⟩) (fun _ => ⟨b1, b2, b4⟩)
      · exact fin [] 0 (fun _ q => absurd d.2.2.1 q) (fun q => absurd q.2.1 d.2.1)
/-- what the class's steps want -/
theorem step_wants {n : Int32} (hM : Mk m g) (h : Rel t V S ps) (ht : t ≤ 512) (hA : ∃ h, Abs h (mset g m S)) : (¬ sUnits V < 0 ∧ (sUnits V).toNatClampNeg ≤ 60000) ∧ allU (imn n (sUnits V)).toNatClampNeg V := by
  obtain ⟨hB, hmu⟩ := rel_mu h
  obtain ⟨u4, _⟩ := uN_le hB
  have cl : (nI (uN V)).toNatClampNeg = uN V := by
    show (nI _).toInt.toNat = _
    rw [nI_toInt (by omega)]
    rfl
  have hle : (imn n (sUnits V)).toNatClampNeg ≤ uN V := by
    rw [sU_uN]
    unfold imn
    by_cases z : nI (uN V) < n
    · rw [if_pos z, cl]
      exact Nat.le_refl _
    · rw [if_neg z]
      rw [Int32.lt_iff_toInt_lt, nI_toInt (by omega)] at z
      have : n.toNatClampNeg = n.toInt.toNat := rfl
      omega
  refine ⟨⟨?_, ?_⟩, units_all hM ht (by omega) _ V S ps hB hmu hle hA⟩
  · rw [sU_uN]
    exact nI_pos (by omega)
  · rw [sU_uN, cl]
    omega
end
