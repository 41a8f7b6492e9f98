/-! class and reference: the unit that finishes; steps -/
section
variable {m : Nat} {g : Gh} {S : MS} {α : Type} {t : Nat} {V : VC} {ps : List AV} {C : Int}
theorem u_fin {ms os : List AR} {nl R : Nat} (hM : Mk m g) (h : RelB t C V S ps) (ht : t ≤ 512) (hCb : C ≤ 1000000) (hnx : V.1.2.2.2.2.2.toInt + 1 ≤ C) (hM1 : M1 V S)
    (b1 : RepL S ms) (b2 : S.1 43 = nI nl) (b3 : nl ≤ ms.length) (b4 : LV V.2.2.1.2.1 V.2.1 ms nl) (b7 : V.2.2.1.2.2.1 ≠ -1 → outOk V S os) (b8 : V.2.2.1.2.2.2.2.2.1 = nI R) (b9 : S.1 36 - S.1 37 = nI R) (b10 : ((totF V.1.1 + R : Nat) : Int) ≤ V.1.2.2.2.1.toInt) (b11 : need1 V ms os nl (inpL V.2.2.1.2.1 V.1.1) ≤ R) (hge : ¬ nxS V.2.1 ms nl < ms.length) :
    UG V ∧ (duV V).1.1.2.2.2.2.2.toInt ≤ V.1.2.2.2.2.2.toInt + 1 ∧ (duV V).1.2.2.1.2.1 = V.2.2.1.2.1 ∧ (duV V).1.2.2.1.2.2.2.1 = V.1.2.2.2.2.2 ∧ (duV V).1.2.2.1.1 = 1 ∧ (∀ r, r ∈ V.2.1 → ¬ r.2.1 < V.2.2.1.2.1) ∧ inpL V.2.2.1.2.1 (duV V).1.1.1 = inpL V.2.2.1.2.1 V.1.1 ∧ ∀ (k : Unit → M α) (Q : α → MS → Prop), (∀ S' ps', RelB t C (duV V).1 S' ps' → S'.1 0 = S.1 0 → okM m g (k ()) S' Q) → okM m g (bd (X9_unit m) k) S Q := by
  have hM1' := hM1
  obtain ⟨a1, a2, a3, a4, ⟨l1, l2, l3⟩, a6, _, _, _, _, _, ⟨b5, b6, b6'⟩, _⟩ := hM1
  have h0 := h
  have hdk := relB_dk h a6
  obtain ⟨⟨⟨f1, f2, f3, f4, f5, f6⟩, hW, hC⟩, ⟨hRS, hArr, r1, r2, r3, r4, r5⟩, ⟨hP, hP0⟩, hMm⟩ := h
  obtain ⟨c1, c2, c3, c4, c5, c6, c7⟩ := hC
  have hT := r1.1.2.2.1
  have pt := pcs_tot f1 hP.2.1
  have hrem : remL V.2.1 ms nl = [] := nxS_none b3 hge
  have hrows : ∀ r, r ∈ V.2.1 → ¬ r.2.1 < V.2.2.1.2.1 := by
    intro r hr q
    have := (rem_mem hW.1 b4).mpr ⟨hr, q⟩
    rw [hrem] at this
    cases this
  have hnb : nxB V.2.1 V.2.2.1.2.1 none = none := nxB_none (oa := none) hW.1 (fun j hj => by cases hj) (fun _ => rfl) (fun r hc => hrows r hc.1 hc.2.1)
  have edu : duV V = fnV V := by
    unfold duV
    rw [if_pos a2, hnb]
    rfl
  have lm := mrC_len (inpL V.2.2.1.2.1 V.1.1)
  unfold need1 at b11
  rw [hrem] at b11
  have hac : ∀ f, fndF V.2.2.2.2.1.2.1 0 V.1.1 = some f → 12 ≤ f.2.2.1.length := by
    intro f hf
    rcases c4 with z | z
    · rw [z] at hf
      obtain ⟨w1, w2, _⟩ := fnd_mem hf
      have := (hdk.2.1 f w1).2.1.1
      rw [w2] at this
      exact absurd this (by decide)
    · exact z.2 f hf
  have e1n : (V.1.2.2.2.2.2 + 1).toInt = V.1.2.2.2.2.2.toInt + 1 := i_p1 (by omega)
  have hUG : GI (whV V).1 → UG V := by
    intro hg
    refine ⟨dk_gi h0 ht hdk f4.2.1 rfl rfl rfl rfl, ?_⟩
    rw [if_pos a2, hnb]
    refine ⟨fun q => ?_, c7, hg⟩
    obtain ⟨_, _, o3, _⟩ := b7 q
    rw [o3, List.length_append, be4_len]
    omega
  have hunit : ∀ (k : Unit → M α) (Q : α → MS → Prop), okM m g (bd (X9_finishes m) (fun _ => pu ())) S (fun v S1 => okM m g (k v) S1 Q) → okM m g (bd (X9_unit m) k) S Q := by
    intro k Q hq
    exact m_unit (ms := ms) (nl := nl) (is := []) (ni := 0) hM r1 f1 r2 r3 (fun _ => ⟨⟨b1, b2, b3⟩, fun _ => hq, fun z => absurd z hge⟩) (fun z => absurd a3 z)
  by_cases hou : V.2.2.1.2.2.1 = -1
  · rw [if_pos hou] at b11
    have ewh : whV V = (V, 0) := by
      unfold whV
      rw [if_pos hou]
    have hmk : mkC (fnA V) = mrC (inpL V.2.2.1.2.1 V.1.1) := by
      rw [mkC_eq]
      unfold fnA
      rw [ewh]
      rfl
    have eV2 : (duV V).1 = ((((appF V.1.2.2.2.2.2 2 (mrC (inpL V.2.2.1.2.1 V.1.1)) V.1.1 V.1.2.1).1).map ph0, (appF V.1.2.2.2.2.2 2 (mrC (inpL V.2.2.1.2.1 V.1.1)) V.1.1 V.1.2.1).2.1, [], V.1.2.2.2.1, V.1.2.2.2.2.1, V.1.2.2.2.2.2 + 1), V.2.1, (V.2.2.1.1, V.2.2.1.2.1, -1, V.1.2.2.2.2.2, V.2.2.1.2.2.2.2.1, 0, V.2.2.1.2.2.2.2.2.2), V.2.2.2.1, V.2.2.2.2.1, (V.2.2.2.2.2.1, V.2.2.2.2.2.2.1, mrC (inpL V.2.2.1.2.1 V.1.1))) := by
      rw [edu]
      unfold fnV fnW
      rw [hmk]
      unfold fnA
      rw [ewh]
      rfl
    have hlt : pk V.1.2.2.2.2.1.toNatClampNeg [] (oLv V.2.2.1.2.2.1 V.1.1) = 0 := by
      unfold oLv
      rw [if_pos hou]
      rfl
    rw [hlt] at b11
    refine ⟨hUG (by rw [ewh]; exact dk_gi h0 ht hdk f4.2.1 rfl rfl rfl rfl), ?_, by rw [eV2], by rw [eV2], by rw [eV2]; exact a1, hrows, ?_, fun k Q hk => hunit k Q ?_⟩
    · rw [eV2]
      show (V.1.2.2.2.2.2 + 1).toInt ≤ _
      omega
    · rw [eV2]
      show inpL _ (((appF _ 2 _ _ _).1).map ph0) = _
      rw [ph_inp, inpL_app (Or.inl (by decide))]
    · have hl2 := (appF_len (a := S.1 35) (b := 1) (part := hiC []) (fs := V.1.1) (sv := ([] : List Nat))).2
      refine m_finishes (os := []) (sv := V.1.2.1) (sv' := []) hM r1 r2 b5 (fun q => absurd (a4.trans hou) q) hArr.1 (by omega) (by omega) (by rw [if_pos (a4.trans hou)]; omega) (by omega) (fun q => absurd (a4.trans hou) q) (fun S' s1 s2 s3 s4 s5 s6 s7 s8 => oM_pu (hk S' [] ?_ (s8.1 0 (by decide))))
      rw [if_pos (a4.trans hou), hRS.1.2.2.1] at s1
      rw [hRS.1.2.2.1] at s4 s5
      exact rel_fin (fs1 := V.1.1) (ar1 := V.1.2.2.1) (ps1 := ps) (sv := V.1.2.1) (R1 := R) h0 ht hCb hnx hM1' hrows hdk (fun r hr => (hW.2.1 r hr).2) rfl rfl (Nat.le_refl _) hac b10 (by omega) (by rw [eV2]) (by rw [eV2]) (by rw [eV2]) ⟨V.2.2.1.2.2.2.2.1, V.2.2.1.2.2.2.2.2.2, by rw [eV2, a1], c7⟩ (by rw [eV2]) (by rw [eV2]) s1 s2 s3 s4 s5 s6 s7 s8
  · have oo := b7 hou
    rw [if_neg hou] at b11
    have hin := hin_eq oo
    obtain ⟨o1, o2, o3, o4, o5, o6, o7, o8⟩ := oo
    have hhc := hiC_len os
    have hfl14 : 14 ≤ (os.flatMap entB).length := by
      cases os with
      | nil => exact absurd rfl o2
      | cons e os =>
        rw [List.flatMap_cons, List.length_append, entB_len]
        omega
    have hlt : pk V.1.2.2.2.2.1.toNatClampNeg [] (oLv V.2.2.1.2.2.1 V.1.1) = 0 := by
      unfold oLv
      rw [if_neg hou]
      rfl
    rw [hlt] at b11
    have hdis : ¬ V.2.2.1.2.2.1 < V.2.2.1.2.1 := nlt_of o6.1
    have ewh : (whV V).1 = si809 (V.2.2.1.2.2.2.2.2.1 - nI (hiC os).length) (sDd (vApp V.2.2.1.2.2.1 1 (hiC os) V.1) (sB17 (hiC os) V)) := by
      unfold whV
      rw [if_neg hou, hin]
    obtain ⟨dk1, tot1⟩ := dk_app (a := V.2.2.1.2.2.1) (b := 1) (nx' := V.1.2.2.2.2.2) (part := hiC os) (sv := V.1.2.1) hdk (Or.inr rfl) ⟨by omega, o6.2⟩ (Int.le_refl _) (by omega) (by omega) f4.2.1 (fun f hf => by rw [o8] at hf; cases hf)
    have einp : inpL V.2.2.1.2.1 (appF V.2.2.1.2.2.1 1 (hiC os) V.1.1 V.1.2.1).1 = inpL V.2.2.1.2.1 V.1.1 := inpL_app (Or.inr hdis)
    have hmk : mkC (fnA V) = mrC (inpL V.2.2.1.2.1 V.1.1) := by
      rw [mkC_eq]
      unfold fnA
      rw [ewh]
      show mrC (inpL V.2.2.1.2.1 (appF V.2.2.1.2.2.1 1 (hiC os) V.1.1 V.1.2.1).1) = _
      rw [einp]
    have eV2 : (duV V).1 = ((((appF V.1.2.2.2.2.2 2 (mrC (inpL V.2.2.1.2.1 V.1.1)) (appF V.2.2.1.2.2.1 1 (hiC os) V.1.1 V.1.2.1).1 (appF V.2.2.1.2.2.1 1 (hiC os) V.1.1 V.1.2.1).2.1).1).map ph0, (appF V.1.2.2.2.2.2 2 (mrC (inpL V.2.2.1.2.1 V.1.1)) (appF V.2.2.1.2.2.1 1 (hiC os) V.1.1 V.1.2.1).1 (appF V.2.2.1.2.2.1 1 (hiC os) V.1.1 V.1.2.1).2.1).2.1, [], V.1.2.2.2.1, V.1.2.2.2.2.1, V.1.2.2.2.2.2 + 1), V.2.1, (V.2.2.1.1, V.2.2.1.2.1, -1, V.1.2.2.2.2.2, V.2.2.1.2.2.2.2.1, 0, hiC os), V.2.2.2.1, V.2.2.2.2.1, (V.2.2.2.2.2.1, V.2.2.2.2.2.2.1, mrC (inpL V.2.2.1.2.1 V.1.1))) := by
      rw [edu]
      unfold fnV fnW
      rw [hmk]
      unfold fnA
      rw [ewh]
      rfl
    refine ⟨hUG (by rw [ewh]; exact dk_gi h0 ht dk1 f4.2.1 rfl rfl rfl rfl), ?_, by rw [eV2], by rw [eV2], by rw [eV2]; exact a1, hrows, ?_, fun k Q hk => hunit k Q ?_⟩
    · rw [eV2]
      show (V.1.2.2.2.2.2 + 1).toInt ≤ _
      omega
    · rw [eV2]
      show inpL _ (((appF _ 2 _ _ _).1).map ph0) = _
      rw [ph_inp, inpL_app (Or.inl (by decide)), einp]
    · have hl2 := (appF_len (a := V.2.2.1.2.2.1) (b := 1) (part := hiC os) (fs := V.1.1) (sv := V.1.2.1)).2
      have hne35 : ¬ S.1 35 = -1 := fun q => hou (a4.symm.trans q)
      refine m_finishes (os := os) (sv := (appF V.2.2.1.2.2.1 1 (hiC os) V.1.1 V.1.2.1).2.1) (sv' := V.1.2.1) hM r1 r2 b5 (fun _ => o1) hArr.1 (by omega) (by omega) (by rw [if_neg hne35]; omega) (by rw [a4]; omega) (fun _ => by rw [a4]; exact tot1) (fun S' s1 s2 s3 s4 s5 s6 s7 s8 => oM_pu (hk S' [] ?_ (s8.1 0 (by decide))))
      rw [if_neg hne35, a4, hRS.1.2.2.1] at s1
      rw [hRS.1.2.2.1] at s4 s5
      refine rel_fin (fs1 := (appF V.2.2.1.2.2.1 1 (hiC os) V.1.1 V.1.2.1).1) (ar1 := noteA V.2.2.1.2.2.1 1 (nI (hiC os).length) V.1.2.2.1) (ps1 := ps ++ [(V.2.2.1.2.2.1, 1, nI (hiC os).length)]) (sv := (appF V.2.2.1.2.2.1 1 (hiC os) V.1.1 V.1.2.1).2.1) (R1 := R - (hiC os).length) h0 ht hCb hnx hM1' hrows dk1 (fun r hr => ?_) einp ?_ (by omega) (fun f hf => ?_) (by rw [tot1]; omega) (by omega) (by rw [eV2]) (by rw [eV2]) (by rw [eV2]) ⟨V.2.2.1.2.2.2.2.1, hiC os, by rw [eV2, a1], ?_⟩ (by rw [eV2]) (by rw [eV2]) s1 s2 s3 s4 s5 s6 s7 s8
      · obtain ⟨_, x2, P2, W2, z⟩ := hW.2.1 r hr
        obtain ⟨x3, z2, _⟩ := fit_app (a := V.2.2.1.2.2.1) (b := 1) (part := hiC os) (sv := V.1.2.1) f1 z
        exact ⟨x3, P2, W2, z2⟩
      · rw [dby_app, if_neg (fun z => absurd z.1 (by decide)), Nat.add_zero]
      · rw [fnd_app_ne f1 (fun z => absurd z.2 (by decide))] at hf
        exact hac f hf
      · have efm : V.1.2.2.2.2.1.toNatClampNeg = V.1.2.2.2.2.1.toInt.toNat := rfl
        omega
/-- the units that are left, as a number -/
def uN (V : VC) : Nat := if V.2.2.1.1 = 0 then 0 else if ¬ V.2.2.1.2.2.2.1 = -1 then (inpL V.2.2.1.2.1 V.1.1).length + 1 else ((V.2.1.filter (fun r => decide (r.2.1 < V.2.2.1.2.1))).length + 1) + ((inpL V.2.2.1.2.1 V.1.1).length + 1)
/-- the numbers that a merge may take still -/
def uM (V : VC) : Nat := if V.2.2.1.1 = 0 then 0 else if ¬ V.2.2.1.2.2.2.1 = -1 then 0 else (V.2.1.filter (fun r => decide (r.2.1 < V.2.2.1.2.1))).length + 1
theorem sU_uN (V : VC) : sUnits V = nI (uN V) := by
  unfold sUnits uN
  by_cases c : V.2.2.1.1 = 0
  · rw [if_pos c, if_pos c]
    rfl
  · rw [if_neg c, if_neg c]
    by_cases d : ¬ V.2.2.1.2.2.2.1 = -1
    · rw [if_pos d, if_pos d, fcnt_nat, Int32.zero_add, nI_1]
    · rw [if_neg d, if_neg d, fcnt_nat, rbel_nat, Int32.zero_add, Int32.zero_add, nI_1, nI_1, nI_add]
theorem set_cnt {rs : List AR} {p : Nat} {r0 y : AR} {l : Int32} (hp : rs[p]? = some r0) (h0 : r0.2.1 < l) (hy : ¬ y.2.1 < l) : (rs.filter (fun r => decide (r.2.1 < l))).length = ((rs.set p y).filter (fun r => decide (r.2.1 < l))).length + 1 := by
  have e : rs = rs.take p ++ r0 :: rs.drop (p + 1) := by rw [← drop_cons hp, List.take_append_drop]
  conv => lhs; rw [e]
  rw [set_split hp, List.filter_append, List.filter_append, List.filter_cons, List.filter_cons, if_pos (decide_eq_true h0), if_neg (fun q => hy (of_decide_eq_true q)), List.length_append, List.length_append, List.length_cons]
  omega
/-- one unit, both sides -/
theorem u_step {u : Nat} (hM : Mk m g) (h : RelB t C V S ps) (ht : t ≤ 512) (hCb : C ≤ 1000000) (hmu : V.1.2.2.2.2.2.toInt + uM V ≤ C) (hu : uN V = u + 1) : 0 < S.1 34 ∧ UG V ∧ (duV V).1.1.2.2.2.2.2.toInt + uM (duV V).1 ≤ C ∧ uN (duV V).1 = u ∧ ∀ (k : Unit → M α) (Q : α → MS → Prop), (∀ S' ps', RelB t C (duV V).1 S' ps' → S'.1 0 = S.1 0 → okM m g (k ()) S' Q) → okM m g (bd (X9_unit m) k) S Q := by
  have h0 := h
  rcases h.2.2.2 with d | d | d
  · unfold uN at hu
    rw [if_pos d.1] at hu
    omega
  · have d0 := d
    obtain ⟨a1, a2, a3, a4, a5, a6, ms, nl, os, R, ⟨b1, b2, b3, b4⟩, b5, b7, b8, b9, b10, b11⟩ := d
    have eM : uM V = (V.2.1.filter (fun r => decide (r.2.1 < V.2.2.1.2.1))).length + 1 := by
      unfold uM
      rw [if_neg (by rw [a1]; decide), if_neg (fun q => q a2)]
    have eN : uN V = ((V.2.1.filter (fun r => decide (r.2.1 < V.2.2.1.2.1))).length + 1) + ((inpL V.2.2.1.2.1 V.1.1).length + 1) := by
      unfold uN
      rw [if_neg (by rw [a1]; decide), if_neg (fun q => q a2)]
    refine ⟨by rw [a3]; decide, ?_⟩
    by_cases hlt : nxS V.2.1 ms nl < ms.length
    · obtain ⟨g1, g2, g3, g4, g5, ⟨r0, q1, q2, o, q, q3, q4⟩, g7, g8⟩ := u_copy (α := α) hM h0 ht hCb (by omega) d0 b1 b2 b3 b4 b7 b8 b9 b10 b11 hlt
      have hc := set_cnt (y := (r0.1, o, q, r0.2.2.2.1, r0.2.2.2.2)) q1 q2 q3
      rw [← q4] at hc
      refine ⟨g1, ?_, ?_, g8⟩
      · unfold uM
        rw [if_neg (by rw [g5]; decide), if_neg (fun z => z g4), g3]
        omega
      · unfold uN
        rw [if_neg (by rw [g5]; decide), if_neg (fun z => z g4), g3, g7]
        omega
    · obtain ⟨g1, g2, g3, g4, g5, g6, g7, g8⟩ := u_fin (α := α) hM h0 ht hCb (by omega) d0 b1 b2 b3 b4 b7 b8 b9 b10 b11 hlt
      have hz : (V.2.1.filter (fun r => decide (r.2.1 < V.2.2.1.2.1))).length = 0 := by
        rw [List.filter_eq_nil_iff.mpr (fun r hr q => g6 r hr (of_decide_eq_true q))]
        rfl
      have hne : ¬ (duV V).1.2.2.1.2.2.2.1 = -1 := by
        rw [g4]
        intro q
        have := h0.1.2.2.2.1.1
        rw [q] at this
        exact absurd this (by decide)
      refine ⟨g1, ?_, ?_, g8⟩
      · unfold uM
        rw [if_neg (by rw [g5]; decide), if_pos hne]
        omega
      · unfold uN
        rw [if_neg (by rw [g5]; decide), if_pos hne, g3, g7]
        omega
  · obtain ⟨g1, g2, g3, g4⟩ := u_rem (α := α) hM h0 ht d
    obtain ⟨a1, a2, a3, _⟩ := d
    have eM : uM V = 0 := by
      unfold uM
      rw [if_neg (by rw [a1]; decide), if_pos a2]
    have eN : uN V = (inpL V.2.2.1.2.1 V.1.1).length + 1 := by
      unfold uN
      rw [if_neg (by rw [a1]; decide), if_pos a2]
    refine ⟨by rw [a3]; decide, g1, ?_, ?_, g4⟩
    · rw [g2]
      have : uM (duV V).1 = 0 := by
        unfold uM
        rcases g3 with ⟨_, z⟩ | ⟨z, _⟩
        · rw [if_pos z]
        · rw [z, if_neg (by rw [a1]; decide), if_pos a2]
      omega
    · unfold uN
      rcases g3 with ⟨z1, z⟩ | ⟨z, v, rest, z1, z2⟩
      · rw [if_pos z]
        rw [z1] at eN
        have eN : uN V = 0 + 1 := eN
        omega
      · rw [z, if_neg (by rw [a1]; decide), if_pos a2, z2]
        rw [z1, List.length_cons] at eN
        omega
end
